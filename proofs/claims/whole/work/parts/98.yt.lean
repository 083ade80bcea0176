section MOD
variable {E : gp_E} {N : Nat → Nat} {S : gp_S} {X Y : gp_H}
theorem inv_big (h : Inv N S X) {a : Nat} (ha : 114 ≤ a) (n1 : ∀ j, j < S.1 → S.2.2.1 j ≠ a) (n2 : ∀ j, j < S.2.1 → S.2.2.2.1 j ≠ a) (g : Nat → Int32) : Inv N S (gp_wI X (fun b k => if b = a then g k else gI X b k)) := by
  have sm : ∀ b k, b < 114 → (fun b k => if b = a then g k else gI X b k) b k = gI X b k := fun b k hb => if_neg (by omega)
  exact ⟨ly_wI h.lay, I_net_w (fun r hr k => sm r k ((by decide : ∀ r, r ∈ rw_net → r < 114) r hr)) (fun q hq => sm q.1 q.2 ((by decide : ∀ q, q ∈ sl_net → q.1 < 114) q hq)) h.net, I_wrk_w (fun r hr k => sm r k ((by decide : ∀ r, r ∈ rw_wrk → r < 114) r hr)) (fun q hq => sm q.1 q.2 ((by decide : ∀ q, q ∈ sl_wrk → q.1 < 114) q hq)) h.wrk, I_stp_w (fun r hr k => sm r k ((by decide : ∀ r, r ∈ rw_stp → r < 114) r hr)) (fun q hq => sm q.1 q.2 ((by decide : ∀ q, q ∈ sl_stp → q.1 < 114) q hq)) h.stp, I_mod_cg (sm 0 4 (by decide)) (sm 55 13 (by decide)) (fun i l r k => sm i k (by omega)) (fun j hj k => if_neg (n2 j hj)) h.mod, I_hom_cg (Nat.le_refl _) (sm 0 6 (by decide)) (sm 55 19 (by decide)) (fun i l r k => sm i k (by omega)) (fun j hj k => if_neg (n1 j hj)) h.hom, I_flt_w (fun r hr k => sm r k ((by decide : ∀ r, r ∈ rw_flt → r < 114) r hr)) (fun q hq => sm q.1 q.2 ((by decide : ∀ q, q ∈ sl_flt → q.1 < 114) q hq)) h.flt, I_sur_cg rfl (sm 0 9 (by decide)) (sm 55 29 (by decide)) (fun i hi => funext fun k => sm i k (by omega)) (fun j hj => if_neg (n1 j hj)) h.sur, I_stk_w (fun r hr k => sm r k ((by decide : ∀ r, r ∈ rw_stk → r < 114) r hr)) (fun q hq => sm q.1 q.2 ((by decide : ∀ q, q ∈ sl_stk → q.1 < 114) q hq)) h.stk, I_ord_w (fun r hr k => sm r k ((by decide : ∀ r, r ∈ rw_ord → r < 114) r hr)) (fun q hq => sm q.1 q.2 ((by decide : ∀ q, q ∈ sl_ord → q.1 < 114) q hq)) h.ord, I_sec_w (fun r hr k => sm r k ((by decide : ∀ r, r ∈ rw_sec → r < 114) r hr)) (fun q hq => sm q.1 q.2 ((by decide : ∀ q, q ∈ sl_sec → q.1 < 114) q hq)) h.sec, I_pln_w (fun r hr k => sm r k ((by decide : ∀ r, r ∈ rw_pln → r < 114) r hr)) (fun q hq => sm q.1 q.2 ((by decide : ∀ q, q ∈ sl_pln → q.1 < 114) q hq)) h.pln, I_row_w (fun r hr k => sm r k ((by decide : ∀ r, r ∈ rw_row → r < 114) r hr)) (fun q hq => sm q.1 q.2 ((by decide : ∀ q, q ∈ sl_row → q.1 < 114) q hq)) h.row, I_wek_w (fun r hr k => sm r k ((by decide : ∀ r, r ∈ rw_wek → r < 114) r hr)) (fun q hq => sm q.1 q.2 ((by decide : ∀ q, q ∈ sl_wek → q.1 < 114) q hq)) h.wek, I_fit_w (fun r hr k => sm r k ((by decide : ∀ r, r ∈ rw_fit → r < 114) r hr)) (fun q hq => sm q.1 q.2 ((by decide : ∀ q, q ∈ sl_fit → q.1 < 114) q hq)) h.fit, I_sml_w (fun r hr k => sm r k ((by decide : ∀ r, r ∈ rw_sml → r < 114) r hr)) (fun q hq => sm q.1 q.2 ((by decide : ∀ q, q ∈ sl_sml → q.1 < 114) q hq)) h.sml, I_lim_w (fun r hr k => sm r k ((by decide : ∀ r, r ∈ rw_lim → r < 114) r hr)) (fun q hq => sm q.1 q.2 ((by decide : ∀ q, q ∈ sl_lim → q.1 < 114) q hq)) h.lim, I_law_w (fun r hr k => sm r k ((by decide : ∀ r, r ∈ rw_law → r < 114) r hr)) (fun q hq => sm q.1 q.2 ((by decide : ∀ q, q ∈ sl_law → q.1 < 114) q hq)) h.law, I_tap_w (fun r hr k => sm r k ((by decide : ∀ r, r ∈ rw_tap → r < 114) r hr)) (fun q hq => sm q.1 q.2 ((by decide : ∀ q, q ∈ sl_tap → q.1 < 114) q hq)) h.tap, I_trc_w (fun r hr k => sm r k ((by decide : ∀ r, r ∈ rw_trc → r < 114) r hr)) (fun q hq => sm q.1 q.2 ((by decide : ∀ q, q ∈ sl_trc → q.1 < 114) q hq)) h.trc, I_she_w (fun r hr k => sm r k ((by decide : ∀ r, r ∈ rw_she → r < 114) r hr)) h.she, I_txt_w (fun r hr k => sm r k ((by decide : ∀ r, r ∈ rw_txt → r < 114) r hr)) (fun q hq => sm q.1 q.2 ((by decide : ∀ q, q ∈ sl_txt → q.1 < 114) q hq)) h.txt⟩
theorem iw_r {v : Int32} {lo hi : Nat} (h : iw v (nI lo) (nI hi) = true) (hh : hi ≤ 100000) (hl : lo ≤ 100000) : ∃ k, lo ≤ k ∧ k ≤ hi ∧ v = nI k := by
  obtain ⟨h1, h2⟩ := iw_ab h
  rw [Int32.le_iff_toInt_le, nI_toInt (by omega)] at h1 h2
  exact ⟨v.toInt.toNat, by omega, by omega, nn_b (by omega)⟩
theorem nw_i {q : Nat × Nat} {b k : Nat} (h : b ≠ X.1) : gI (gp_nw X q) b k = gI X b k := by
  show (if b = X.1 then (fun _ => (0 : Int32)) else X.2.2.2.1 b) k = _
  rw [if_neg h]
theorem nw_0 {q : Nat × Nat} {k : Nat} : gI (gp_nw X q) X.1 k = 0 := by
  show (if X.1 = X.1 then (fun _ => (0 : Int32)) else X.2.2.2.1 X.1) k = _
  rw [if_pos rfl]
def sM (S : gp_S) (a k : Nat) : gp_S := (S.1, S.2.1 + 1, S.2.2.1, (fun j => if j = S.2.1 then a else S.2.2.2.1 j), (fun j => if j = S.2.1 then k else S.2.2.2.2.1 j), S.2.2.2.2.2)
def mdR (Y : gp_H) (i m : Nat) (x2 x3 x4 x5 : Int32) : gp_H := gp_sI (gp_sI (gp_sI (gp_sI (gp_sI (gp_sI Y 65 m (nI i)) 66 m x2) 67 m x3) 68 m x4) 69 m x5) 55 13 (nI m + 1)
theorem lay_M (l : Lay S X) {i : Nat} (hi : i ≤ 3) (hm : S.2.1 < 12) (x2 x3 x4 x5 : Int32) : Lay (sM S X.1 (kK i)) (mdX X i S.2.1 x2 x3 x4 x5) := by
  obtain ⟨l0, l1, l2, l3, l4, l5, l6, l7, l8⟩ := l
  have rf : ∀ b k, b ≠ X.1 → ¬ (b = 15 ∧ k = S.2.1) → (mdX X i S.2.1 x2 x3 x4 x5).2.2.1 b k = X.2.2.1 b k := fun b k z1 z2 => by
    show (if b = 15 ∧ k = S.2.1 then some X.1 else (if b = X.1 ∧ k = 0 then some 13 else (if b = X.1 then (fun _ => none) else X.2.2.1 b) k)) = _
    rw [if_neg z2, if_neg (fun y => z1 y.1), if_neg z1]
  have at_ : ∀ {b : Nat} {q : Nat × Nat}, gp_at X b q → gp_at (mdX X i S.2.1 x2 x3 x4 x5) b q := fun z => at_nw z
  have kd : ∀ b, b ≠ X.1 → (mdX X i S.2.1 x2 x3 x4 x5).2.1 b = X.2.1 b := fun b z => if_neg z
  obtain ⟨g1, g2, -⟩ := kK_g hi
  refine ⟨Nat.le_succ_of_le l0, fun b hb => (kd b (by omega)).trans (l1 b hb), fun b hb z1 z2 k => (rf b k (by omega) (fun y => z1 y.1)).trans (l2 b hb z1 z2 k), fun j hj => ?_, fun j hj => ?_, fun j j' hj hj' e => ?_, l6, show S.2.1 + 1 ≤ 12 by omega, l8⟩
  · have hj' : j < S.2.1 + 1 := hj
    show (mdX X i S.2.1 x2 x3 x4 x5).2.2.1 15 j = some (if j = S.2.1 then X.1 else S.2.2.2.1 j) ∧ gp_at _ (if j = S.2.1 then X.1 else S.2.2.2.1 j) ((if j = S.2.1 then kK i else S.2.2.2.2.1 j), 0) ∧ 114 ≤ (if j = S.2.1 then X.1 else S.2.2.2.1 j) ∧ (mdX X i S.2.1 x2 x3 x4 x5).2.2.1 (if j = S.2.1 then X.1 else S.2.2.2.1 j) 0 = some 13 ∧ ((if j = S.2.1 then kK i else S.2.2.2.2.1 j) < 13 ∧ gp_gid (if j = S.2.1 then kK i else S.2.2.2.2.1 j) = 7)
    by_cases z : j = S.2.1
    · rw [if_pos z, if_pos z]
      refine ⟨?_, at_new rfl, l0, ?_, g1, g2⟩
      · show (if 15 = 15 ∧ j = S.2.1 then some X.1 else _) = _
        rw [if_pos ⟨rfl, z⟩]
      · show (if X.1 = 15 ∧ 0 = S.2.1 then some X.1 else (if X.1 = X.1 ∧ 0 = 0 then some 13 else _)) = _
        rw [if_neg (by omega), if_pos ⟨rfl, rfl⟩]
    · rw [if_neg z, if_neg z]
      obtain ⟨m1, m2, m3, m4, m5⟩ := l3 j (by omega)
      have := m2.1
      exact ⟨(rf 15 j (by omega) (fun y => z y.2)).trans m1, at_ m2, m3, (rf _ 0 (by omega) (by omega)).trans m4, m5⟩
  · obtain ⟨m1, m2, m3, m4, m5⟩ := l4 j hj
    have := m2.1
    refine ⟨(rf 16 j (by omega) (by omega)).trans m1, at_ m2, m3, ?_, Nat.lt_succ_of_lt m5⟩
    show _ = some (if S.2.2.2.2.2 j = S.2.1 then X.1 else S.2.2.2.1 (S.2.2.2.2.2 j))
    rw [if_neg (by omega), ← m4]
    exact rf (S.2.2.1 j) 3 (by omega) (by omega)
  · have hj1 : j < S.2.1 + 1 := hj
    have hj2 : j' < S.2.1 + 1 := hj'
    have e' : (if j = S.2.1 then X.1 else S.2.2.2.1 j) = (if j' = S.2.1 then X.1 else S.2.2.2.1 j') := e
    by_cases z : j = S.2.1
    · by_cases z' : j' = S.2.1
      · omega
      · rw [if_pos z, if_neg z'] at e'
        have := (l3 j' (by omega)).2.1.1
        omega
    · by_cases z' : j' = S.2.1
      · rw [if_neg z, if_pos z'] at e'
        have := (l3 j (by omega)).2.1.1
        omega
      · rw [if_neg z, if_neg z'] at e'
        exact l5 j j' (by omega) (by omega) e'
theorem inv_M (h : Inv N S X) {i b c d e : Nat} (hi : i ≤ 3) (hm : S.2.1 < 12) (hb : b < 5) (hc1 : 1 ≤ c) (hc : c ≤ 9) (hd1 : 1 ≤ d) (hd : d ≤ 8) (he : e ≤ 3) : Inv N (sM S X.1 (kK i)) (mdR (mdX X i S.2.1 (nI b) (nI c) (nI d) (nI e)) i S.2.1 (nI b) (nI c) (nI d) (nI e)) := by
  have hL := h.lay
  have l0 : 114 ≤ X.1 := hL.1
  have lay : Lay (sM S X.1 (kK i)) (mdR (mdX X i S.2.1 (nI b) (nI c) (nI d) (nI e)) i S.2.1 (nI b) (nI c) (nI d) (nI e)) := ly_sI (ly_sI (ly_sI (ly_sI (ly_sI (ly_sI (lay_M hL hi hm _ _ _ _))))))
  have rd : ∀ z k, gI (mdR (mdX X i S.2.1 (nI b) (nI c) (nI d) (nI e)) i S.2.1 (nI b) (nI c) (nI d) (nI e)) z k = if z = 55 ∧ k = 13 then nI S.2.1 + 1 else if z = 69 ∧ k = S.2.1 then nI e else if z = 68 ∧ k = S.2.1 then nI d else if z = 67 ∧ k = S.2.1 then nI c else if z = 66 ∧ k = S.2.1 then nI b else if z = 65 ∧ k = S.2.1 then nI i else if z = 0 ∧ k = 4 then nI (S.2.1 + 1) else gI (mkM (gp_nw X (kK i, 0)) X.1 (nI S.2.1) (nI b) (nI c) (nI d) (nI e)) z k := fun z k => rfl
  generalize eX2 : mdR (mdX X i S.2.1 (nI b) (nI c) (nI d) (nI e)) i S.2.1 (nI b) (nI c) (nI d) (nI e) = X2 at lay rd
  have hb1 : ∀ j, j < S.1 → S.2.2.1 j ≠ X.1 := fun j hj => by
    have := (hL.2.2.2.2.1 j hj).2.1.1
    omega
  have hb2 : ∀ j, j < S.2.1 → S.2.2.2.1 j ≠ X.1 := fun j hj => by
    have := (hL.2.2.2.1 j hj).2.1.1
    omega
  have lo : ∀ z k, z ≠ X.1 → ¬ (z = 55 ∧ k = 13) → ¬ (z = 0 ∧ k = 4) → ¬ ((z = 65 ∨ z = 66 ∨ z = 67 ∨ z = 68 ∨ z = 69) ∧ k = S.2.1) → gI X2 z k = gI X z k := fun z k z1 z2 z3 z4 => by
    rw [rd, if_neg z2, if_neg (by omega), if_neg (by omega), if_neg (by omega), if_neg (by omega), if_neg (by omega), if_neg z3, mk_at, if_neg (by omega), if_neg (by omega), if_neg (by omega), if_neg (by omega), if_neg (by omega), nw_i z1]
  have h0 := inv_big h l0 hb1 hb2 (gI X2 X.1)
  have hx := X_w (f := gI X2) [(0, 4), (55, 13), (65, 0), (66, 0), (67, 0), (68, 0), (69, 0)] false (X_0 h0) (fun z k ho _ => by
    have d1 : z ≠ 65 := off_ne ho (65, 0)
    have d2 : z ≠ 66 := off_ne ho (66, 0)
    have d3 : z ≠ 67 := off_ne ho (67, 0)
    have d4 : z ≠ 68 := off_ne ho (68, 0)
    have d5 : z ≠ 69 := off_ne ho (69, 0)
    show _ = (if z = X.1 then gI X2 X.1 k else gI X z k)
    by_cases q : z = X.1
    · rw [if_pos q, q]
    · rw [if_neg q]
      exact lo z k q (off_sl ho (55, 13)) (off_sl ho (0, 4)) (by omega))
  refine ⟨lay, (hx.2.1 rfl), (hx.2.2.1 rfl), (hx.2.2.2.1 rfl), ?_, (hx.2.2.2.2.2.1 rfl), (hx.2.2.2.2.2.2.1 rfl), ?_, (hx.2.2.2.2.2.2.2.2.1 rfl), (hx.2.2.2.2.2.2.2.2.2.1 rfl), (hx.2.2.2.2.2.2.2.2.2.2.1 rfl), (hx.2.2.2.2.2.2.2.2.2.2.2.1 rfl), (hx.2.2.2.2.2.2.2.2.2.2.2.2.1 rfl), (hx.2.2.2.2.2.2.2.2.2.2.2.2.2.1 rfl), (hx.2.2.2.2.2.2.2.2.2.2.2.2.2.2.1 rfl), (hx.2.2.2.2.2.2.2.2.2.2.2.2.2.2.2.1 rfl), (hx.2.2.2.2.2.2.2.2.2.2.2.2.2.2.2.2.1 rfl), (hx.2.2.2.2.2.2.2.2.2.2.2.2.2.2.2.2.2.1 rfl), (hx.2.2.2.2.2.2.2.2.2.2.2.2.2.2.2.2.2.2.1 rfl), (hx.2.2.2.2.2.2.2.2.2.2.2.2.2.2.2.2.2.2.2.1 rfl), (hx.2.2.2.2.2.2.2.2.2.2.2.2.2.2.2.2.2.2.2.2.1 rfl), (hx.2.2.2.2.2.2.2.2.2.2.2.2.2.2.2.2.2.2.2.2.2 rfl)⟩
  · refine ⟨⟨?_, ?_⟩, fun j hj => ?_⟩
    · rw [rd, if_neg (by omega), if_neg (by omega), if_neg (by omega), if_neg (by omega), if_neg (by omega), if_neg (by omega), if_pos ⟨rfl, rfl⟩]; rfl
    · rw [rd, if_pos ⟨rfl, rfl⟩]; exact nI_s _
    · have hj' : j < S.2.1 + 1 := hj
      show (gI X2 (if j = S.2.1 then X.1 else S.2.2.2.1 j) 1 = nI j ∧ gI X2 (if j = S.2.1 then X.1 else S.2.2.2.1 j) 2 = gI X2 66 j ∧ gI X2 (if j = S.2.1 then X.1 else S.2.2.2.1 j) 3 = gI X2 67 j ∧ gI X2 (if j = S.2.1 then X.1 else S.2.2.2.1 j) 4 = gI X2 68 j ∧ gI X2 (if j = S.2.1 then X.1 else S.2.2.2.1 j) 5 = gI X2 69 j ∧ gI X2 65 j = kdF (if j = S.2.1 then kK i else S.2.2.2.2.1 j)) ∧ _
      by_cases z : j = S.2.1
      · rw [if_pos z, if_pos z]
        have o : ∀ k, gI X2 X.1 k = gI (mkM (gp_nw X (kK i, 0)) X.1 (nI S.2.1) (nI b) (nI c) (nI d) (nI e)) X.1 k := fun k => by
          rw [rd, if_neg (by omega), if_neg (by omega), if_neg (by omega), if_neg (by omega), if_neg (by omega), if_neg (by omega), if_neg (by omega)]
        have r66 : gI X2 66 j = nI b := by rw [rd, if_neg (by omega), if_neg (by omega), if_neg (by omega), if_neg (by omega), if_pos ⟨rfl, z⟩]
        have r67 : gI X2 67 j = nI c := by rw [rd, if_neg (by omega), if_neg (by omega), if_neg (by omega), if_pos ⟨rfl, z⟩]
        have r68 : gI X2 68 j = nI d := by rw [rd, if_neg (by omega), if_neg (by omega), if_pos ⟨rfl, z⟩]
        have r69 : gI X2 69 j = nI e := by rw [rd, if_neg (by omega), if_pos ⟨rfl, z⟩]
        have r65 : gI X2 65 j = nI i := by rw [rd, if_neg (by omega), if_neg (by omega), if_neg (by omega), if_neg (by omega), if_neg (by omega), if_pos ⟨rfl, z⟩]
        rw [o, o, o, o, o, mk_at, mk_at, mk_at, mk_at, mk_at, r65, r66, r67, r68, r69, (kK_g hi).2.2]
        exact ⟨⟨by rw [if_neg (by omega), if_neg (by omega), if_neg (by omega), if_neg (by omega), if_pos ⟨rfl, rfl⟩, z], by rw [if_neg (by omega), if_neg (by omega), if_neg (by omega), if_pos ⟨rfl, rfl⟩], by rw [if_neg (by omega), if_neg (by omega), if_pos ⟨rfl, rfl⟩], by rw [if_neg (by omega), if_pos ⟨rfl, rfl⟩], by rw [if_pos ⟨rfl, rfl⟩], rfl⟩, b, c, d, e, hb, rfl, hc1, hc, rfl, hd1, hd, rfl, he, rfl⟩
      · rw [if_neg z, if_neg z]
        have hj2 : j < S.2.1 := by omega
        have n1 := hb2 j hj2
        have n2 := (hL.2.2.2.1 j hj2).2.2.1
        rw [lo _ 1 n1 (by omega) (by omega) (by omega), lo _ 2 n1 (by omega) (by omega) (by omega), lo _ 3 n1 (by omega) (by omega) (by omega), lo _ 4 n1 (by omega) (by omega) (by omega), lo _ 5 n1 (by omega) (by omega) (by omega), lo 65 j (by omega) (by omega) (by omega) (by omega), lo 66 j (by omega) (by omega) (by omega) (by omega), lo 67 j (by omega) (by omega) (by omega) (by omega), lo 68 j (by omega) (by omega) (by omega) (by omega), lo 69 j (by omega) (by omega) (by omega) (by omega)]
        exact h.mod.2 j hj2
  · have q : I_sur N S X2 := hx.2.2.2.2.2.2.2.1 rfl
    obtain ⟨a1, a2, a3⟩ := q
    refine ⟨a1, fun j hj => ?_, a3⟩
    obtain ⟨b1, b2, b3, b4⟩ := a2 j hj
    exact ⟨b1, b2, b3, ((low_lt (n := S.2.1 + 1) (by omega)).mp (low_mono ((low_lt (n := S.2.1) (by omega)).mpr ⟨Int32.le_of_lt b3, b4⟩) (by omega))).2⟩
end MOD
theorem p_model {E : gp_E} {N : Nat → Nat} {S : gp_S} {X : gp_H} (h : Inv N S X) (x1 x2 x3 x4 x5 : Int32) : Ev E m_ga_model 0 [(0, .ref 0), (1, .int x1), (2, .int x2), (3, .int x3), (4, .int x4), (5, .int x5)] [] X (0, 0) (gp_two E m_mo_model [(0, .ref 55), (1, .int x1), (2, .int x2), (3, .int x3), (4, .int x4), (5, .int x5)]) := by
  have hL := h.lay
  have l2 := l12 hL
  obtain ⟨k1, k2⟩ := h.mod.1
  have R := fun {S' : gp_S} {Y : gp_H} (lY : Lay S' Y) (gY : gI Y 55 13 = gI X 55 13) {Q} => show _ from by
    have := b_mo_model_0 (E := E) (x1 := x1) (x2 := x2) (x3 := x3) (x4 := x4) (x5 := x5) (Q := Q) lY
    rw [gY, k2] at this
    exact this
  refine b_ga_model_0 hL ⟨fun c => ⟨_, S, rfl, hL, R hL rfl ⟨fun _ => ⟨rfl, N, h⟩, fun z => bnf c z⟩⟩, fun c1 => ⟨fun c => ⟨_, S, rfl, hL, R hL rfl ⟨fun z => bne c1 z, fun _ => ⟨fun _ => ⟨rfl, N, h⟩, fun z => bnf c z⟩⟩⟩, fun c2 => ⟨fun c3 => ⟨fun c => ⟨_, S, rfl, hL, R hL rfl ⟨fun z => bne c1 z, fun _ => ⟨fun z => bne c2 z, fun _ => ⟨fun z => bne c3 z, fun _ => ⟨fun _ => ⟨rfl, N, h⟩, fun z => bnf c z⟩⟩⟩⟩⟩, fun c4 => ⟨fun c5 => ?_, fun c => ⟨_, S, rfl, hL, R hL rfl ⟨fun z => bne c1 z, fun _ => ⟨fun z => bne c2 z, fun _ => ⟨fun z => bne c3 z, fun _ => ⟨fun z => bne c4 z, fun _ => ⟨fun z => bnf c z, fun _ => ⟨rfl, N, h⟩⟩⟩⟩⟩⟩⟩⟩⟩, fun c => ⟨_, S, rfl, hL, R hL rfl ⟨fun z => bne c1 z, fun _ => ⟨fun z => bne c2 z, fun _ => ⟨fun _ => ⟨rfl, N, h⟩, fun z => bnf c z⟩⟩⟩⟩⟩⟩⟩
  rw [k1]
  obtain ⟨i, hi, rfl⟩ := iw_lt (n := 3) 3 (by decide) c1
  obtain ⟨b, hb, rfl⟩ := iw_lt (n := 4) 4 (by decide) c2
  obtain ⟨c, hc1, hc, rfl⟩ := iw_r (lo := 1) (hi := 9) c3 (by decide) (by decide)
  obtain ⟨d, hd1, hd, rfl⟩ := iw_r (lo := 1) (hi := 8) c4 (by decide) (by decide)
  obtain ⟨e, he, rfl⟩ := iw_lt (n := 3) 3 (by decide) c5
  refine ⟨fun c6 => ?_, fun c6 => ⟨_, S, rfl, hL, R hL rfl ⟨fun z => bne c1 z, fun _ => ⟨fun z => bne c2 z, fun _ => ⟨fun z => bne c3 z, fun _ => ⟨fun z => bne c4 z, fun _ => ⟨fun _ => ⟨fun z => ?_, fun _ => ⟨rfl, N, h⟩⟩, fun z => bne c5 z⟩⟩⟩⟩⟩⟩⟩
  · have hm : S.2.1 < 12 := (nI_lt_lit (k := 12) rfl (by omega) (by omega)).mp c6
    have lM := lay_M hL hi hm (nI b) (nI c) (nI d) (nI e)
    have l0 := hL.1
    have e13 : gI (mdX X i S.2.1 (nI b) (nI c) (nI d) (nI e)) 55 13 = gI X 55 13 := by
      show (if 55 = 0 ∧ 13 = 4 then nI (S.2.1 + 1) else gI (mkM (gp_nw X (kK i, 0)) X.1 (nI S.2.1) (nI b) (nI c) (nI d) (nI e)) 55 13) = _
      rw [if_neg (by omega), mk_at, if_neg (by omega), if_neg (by omega), if_neg (by omega), if_neg (by omega), if_neg (by omega), nw_i (by omega)]
    refine s_model65 hL hi hm k1 _ _ _ _ ⟨_, sM S X.1 (kK i), rfl, lM, R lM e13 ⟨fun z => bne c1 z, fun _ => ⟨fun z => bne c2 z, fun _ => ⟨fun z => bne c3 z, fun _ => ⟨fun z => bne c4 z, fun _ => ⟨fun _ => ⟨fun _ => ⟨vin hm (by omega), ?_⟩, fun z => absurd ((nI_eq_lit (k := 12) rfl (by omega) (by omega)).mp z) (by omega)⟩, fun z => bne c5 z⟩⟩⟩⟩⟩⟩
    rw [nI_add_sub, nI_c (k := S.2.1) (by omega)]
    exact ⟨rfl, N, inv_M h hi hm (by omega) hc1 hc hd1 hd he⟩
  · have hm : ¬ S.2.1 < 12 := fun y => c6 ((nI_lt_lit (k := 12) rfl (by omega) (by omega)).mpr y)
    exact absurd ((nI_eq_lit (n := S.2.1) (k := 12) rfl (by omega) (by omega)).mpr (by omega)) z
