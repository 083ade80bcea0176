section ACT
variable {E : gp_E} {N : Nat → Nat} {S : gp_S} {X Y : gp_H}
/-- the bodies that began, on both sides -/
def trX (l : List Int32) (X : gp_H) : gp_H := gp_wI X (fun a k => if (a = 14 ∨ a = 103) ∧ k < l.length then l.getD k 0 else if (a = 13 ∧ k = 1) ∨ (a = 55 ∧ k = 65) then nI l.length else gI X a k)
theorem tr_at (l : List Int32) (a k : Nat) : gI (trX l X) a k = if (a = 14 ∨ a = 103) ∧ k < l.length then l.getD k 0 else if (a = 13 ∧ k = 1) ∨ (a = 55 ∧ k = 65) then nI l.length else gI X a k := rfl
theorem tr_ne {l : List Int32} {a k : Nat} (h1 : a ≠ 14) (h2 : a ≠ 103) (h3 : a ≠ 13) (h4 : ¬ (a = 55 ∧ k = 65)) : gI (trX l X) a k = gI X a k := by
  rw [tr_at, if_neg (by omega), if_neg (by omega)]
theorem tr_inv (h : Inv N S X) {l : List Int32} (hl : l.length ≤ 20) : Inv N S (trX l X) := by
  refine iw_y [(14, 0), (103, 0), (13, 1), (55, 65)] false N h (ly_wI h.lay) (fun a k ho _ => ?_) (fun hx => ⟨hx.1, (hx.2.1 rfl), (hx.2.2.1 rfl), (hx.2.2.2.1 rfl), (hx.2.2.2.2.1 rfl), (hx.2.2.2.2.2.1 rfl), (hx.2.2.2.2.2.2.1 rfl), (hx.2.2.2.2.2.2.2.1 rfl), (hx.2.2.2.2.2.2.2.2.1 rfl), (hx.2.2.2.2.2.2.2.2.2.1 rfl), (hx.2.2.2.2.2.2.2.2.2.2.1 rfl), (hx.2.2.2.2.2.2.2.2.2.2.2.1 rfl), (hx.2.2.2.2.2.2.2.2.2.2.2.2.1 rfl), (hx.2.2.2.2.2.2.2.2.2.2.2.2.2.1 rfl), (hx.2.2.2.2.2.2.2.2.2.2.2.2.2.2.1 rfl), (hx.2.2.2.2.2.2.2.2.2.2.2.2.2.2.2.1 rfl), (hx.2.2.2.2.2.2.2.2.2.2.2.2.2.2.2.2.1 rfl), (hx.2.2.2.2.2.2.2.2.2.2.2.2.2.2.2.2.2.1 rfl), (hx.2.2.2.2.2.2.2.2.2.2.2.2.2.2.2.2.2.2.1 rfl), ?_, (hx.2.2.2.2.2.2.2.2.2.2.2.2.2.2.2.2.2.2.2.2.1 rfl), (hx.2.2.2.2.2.2.2.2.2.2.2.2.2.2.2.2.2.2.2.2.2 rfl)⟩)
  · have d1 : a ≠ 14 := off_ne ho (14, 0)
    have d2 : a ≠ 103 := off_ne ho (103, 0)
    have d3 := off_sl ho (13, 1)
    have d4 := off_sl ho (55, 65)
    rw [tr_at, if_neg (by omega), if_neg (fun y => y.elim d3 d4)]
  · have e1 : gI (trX l X) 13 1 = nI l.length := by rw [tr_at, if_neg (by omega), if_pos (Or.inl ⟨rfl, rfl⟩)]
    have e2 : gI (trX l X) 55 65 = nI l.length := by rw [tr_at, if_neg (by omega), if_pos (Or.inr ⟨rfl, rfl⟩)]
    refine ⟨⟨e1.trans e2.symm, l.length, by omega, e2⟩, fun i => ?_⟩
    rw [tr_at, tr_at]
    by_cases z : i < l.length
    · rw [if_pos ⟨Or.inl rfl, z⟩, if_pos ⟨Or.inr rfl, z⟩]
    · rw [if_neg (show ¬ ((14 = 14 ∨ 14 = 103) ∧ i < l.length) from fun y => z y.2), if_neg (show ¬ ((103 = 14 ∨ 103 = 103) ∧ i < l.length) from fun y => z y.2), if_neg (show ¬ ((14 = 13 ∧ i = 1) ∨ (14 = 55 ∧ i = 65)) by omega), if_neg (show ¬ ((103 = 13 ∧ i = 1) ∨ (103 = 55 ∧ i = 65)) by omega)]
      exact h.trc.2 i
theorem tr_step {l : List Int32} {v : Int32} {a k : Nat} : gI (trX (l ++ [v]) X) a k = if (a = 13 ∧ k = 1) ∨ (a = 55 ∧ k = 65) then nI l.length + 1 else if (a = 14 ∨ a = 103) ∧ k = l.length then v else gI (trX l X) a k := by
  rw [tr_at, tr_at]
  have e : (l ++ [v]).length = l.length + 1 := by simp
  rw [e]
  by_cases z1 : (a = 13 ∧ k = 1) ∨ (a = 55 ∧ k = 65)
  · rw [if_pos z1, if_pos z1, if_neg (by omega), nI_s]
  · rw [if_neg z1, if_neg z1, if_neg z1]
    by_cases z2 : (a = 14 ∨ a = 103) ∧ k = l.length
    · rw [if_pos z2, if_pos (by omega), z2.2]
      simp
    · rw [if_neg z2]
      by_cases z3 : (a = 14 ∨ a = 103) ∧ k < l.length
      · rw [if_pos z3, if_pos (by omega)]
        simp only [List.getD_eq_getElem?_getD, List.getElem?_append_left z3.2]
      · rw [if_neg z3, if_neg (by omega)]
def CP (S : gp_S) (X : gp_H) (l : List Int32) (v : Int32) (Y : gp_H) : Option Value → gp_H → Prop := fun r Y' => r = some (.int v) ∧ Lay S Y' ∧ Rf Y Y' ∧ Cf (trX l X) Y'
def RP (S : gp_S) (X : gp_H) (l : List Int32) (v : Int32) (Y : gp_H) : Option Value → gp_H → Prop := fun r Y' => r = some (.int v) ∧ Lay S Y' ∧ Cf Y Y' ∧ Rf (trX l X) Y'
theorem s_begin {l : List Int32} (hl : l.length < 20) (lY : Lay S Y) (c : Cf (trX l X) Y) (v : Int32) : Ev E m_tr_begin 0 [(0, .ref 13), (1, .int v)] [] Y (0, 0) (fun r Y' => r = none ∧ Lay S Y' ∧ Rf Y Y' ∧ Cf (trX (l ++ [v]) X) Y') := by
  have e1 : gI Y 13 1 = nI l.length := (c 13 1 rfl).trans (by rw [tr_at, if_neg (by omega), if_pos (Or.inl ⟨rfl, rfl⟩)])
  refine b_tr_begin_0 lY ?_
  rw [e1]
  refine ⟨fun z => absurd z (nI_nge (b := 20) hl (by decide)), fun _ => ⟨vin hl (by omega), b_tr_begin_19 (ly_sI lY) ?_⟩⟩
  rw [nI_c (by omega)]
  refine ⟨rfl, ly_sI (ly_sI lY), rg_sI (rg_sI (rf_0 Y)), fun a k ha => ?_⟩
  have ha' := cc_or ha
  rw [tr_step]
  have e2 : gI (gp_sI Y 14 l.length v) 13 1 = nI l.length := e1
  rw [e2]
  show (if a = 13 ∧ k = 1 then nI l.length + 1 else if a = 14 ∧ k = l.length then v else gI Y a k) = _
  by_cases z1 : a = 13 ∧ k = 1
  · rw [if_pos z1, if_pos (Or.inl z1)]
  · rw [if_neg z1, if_neg (show ¬ ((a = 13 ∧ k = 1) ∨ (a = 55 ∧ k = 65)) by omega)]
    by_cases z2 : a = 14 ∧ k = l.length
    · rw [if_pos z2, if_pos ⟨Or.inl z2.1, z2.2⟩]
    · rw [if_neg z2, if_neg (show ¬ ((a = 14 ∨ a = 103) ∧ k = l.length) by omega)]
      exact c a k ha
theorem s_body {l : List Int32} (hl : l.length < 20) (lY : Lay S Y) (c : Rf (trX l X) Y) (v : Int32) : Ev E m_mo_body 0 [(0, .ref 55), (1, .int v)] [] Y (0, 0) (fun r Y' => r = none ∧ Lay S Y' ∧ Cf Y Y' ∧ Rf (trX (l ++ [v]) X) Y') := by
  have e1 : gI Y 55 65 = nI l.length := (c 55 65 rfl).trans (by rw [tr_at, if_neg (by omega), if_pos (Or.inr ⟨rfl, rfl⟩)])
  refine b_mo_body_0 lY ?_
  rw [e1]
  refine ⟨fun z => absurd z (nI_nge (b := 20) hl (by decide)), fun _ => ⟨vin hl (by omega), b_mo_body_19 (ly_sI lY) ?_⟩⟩
  rw [nI_c (by omega)]
  refine ⟨rfl, ly_sI (ly_sI lY), cg_sI (cg_sI (cf_0 Y)), fun a k ha => ?_⟩
  have hb := isR_lt ha
  rw [tr_step]
  have e2 : gI (gp_sI Y 103 l.length v) 55 65 = nI l.length := e1
  rw [e2]
  show (if a = 55 ∧ k = 65 then nI l.length + 1 else if a = 103 ∧ k = l.length then v else gI Y a k) = _
  by_cases z1 : a = 55 ∧ k = 65
  · rw [if_pos z1, if_pos (Or.inr z1)]
  · rw [if_neg z1, if_neg (show ¬ ((a = 13 ∧ k = 1) ∨ (a = 55 ∧ k = 65)) by omega)]
    by_cases z2 : a = 103 ∧ k = l.length
    · rw [if_pos z2, if_pos ⟨Or.inr z2.1, z2.2⟩]
    · rw [if_neg z2, if_neg (show ¬ ((a = 14 ∨ a = 103) ∧ k = l.length) by omega)]
      exact c a k ha
def bE (k : Nat) : List Int32 := if k = 2 then [30, 10] else if k = 1 then [40, 10] else [10]
def bV (k : Nat) (b j x : Int32) : Int32 := if k = 2 then (x + b) * 3 else if k = 1 then (x + b) ^^^ j else x + b
def wE (k : Nat) : List Int32 := if k = 6 ∨ k = 2 then [20, 11] ++ bE k else if k = 1 then [41, 11] ++ bE k ++ bE k else [11] ++ bE k
def wV (k : Nat) (b j x : Int32) : Int32 := if k = 6 ∨ k = 2 then bV k b j x * 2 - j else if k = 1 then bV k b j x * 2 + bV k b j x else bV k b j x * 2
def gE (k : Nat) : List Int32 := [12] ++ wE k ++ bE k
def gV (k : Nat) (b j x : Int32) : Int32 := wV k b j x ^^^ bV k b j (x + j)
theorem bE_l (k : Nat) : (bE k).length ≤ 2 := by
  unfold bE
  split
  · decide
  · split <;> decide
theorem wE_l (k : Nat) : (wE k).length ≤ 6 := by
  have := bE_l k
  unfold wE
  split
  · simp; omega
  · split <;> (simp; omega)
theorem mc_ne {l : List Int32} (lX : Lay S X) {m k : Nat} (hm : m < S.2.1) : gI (trX l X) (S.2.2.2.1 m) k = gI X (S.2.2.2.1 m) k := by
  have := (lX.2.2.2.1 m hm).2.2.1
  exact tr_ne (by omega) (by omega) (by omega) (by omega)
theorem s_ri_burns (h : Inv N S X) {l : List Int32} (hl : l.length < 20) (lY : Lay S Y) (c : Cf (trX l X) Y) {m : Nat} (hm : m < S.2.1) (x : Int32) : Ev E m_ri_burns 0 [(0, .ref (S.2.2.2.1 m)), (1, .int x)] [] Y (0, 0) (CP S X (l ++ [10]) (x + gI X 67 m) Y) := by
  have r := lY.2.2.2.1 m hm
  obtain ⟨⟨m1, m2, m3, -⟩, -⟩ := h.mod.2 m hm
  refine b_ri_burns_0 lY r.2.1 r.2.2.2.2 ⟨r.2.2.2.1, _, s_begin hl lY c 10, fun q Y1 ⟨x1, x2, x3, x4⟩ => ⟨x1, x2, (x2.2.2.2.1 m hm).2.1, ?_⟩⟩
  rw [cf_md x4 x2 hm, mc_ne h.lay hm, m3]
  exact ⟨rfl, x2, x3, x4⟩
theorem s_c_burns (h : Inv N S X) {l : List Int32} (hl : l.length < 19) (lY : Lay S Y) (c : Cf (trX l X) Y) {m : Nat} (hm : m < S.2.1) (x : Int32) : ((S.2.2.2.2.1 m) = 1 → Ev E m_fi_burns 0 [(0, .ref (S.2.2.2.1 m)), (1, .int x)] [] Y (0, 0) (CP S X (l ++ bE (S.2.2.2.2.1 m)) (bV (S.2.2.2.2.1 m) (gI X 67 m) (nI m) x) Y)) ∧ ((S.2.2.2.2.1 m) = 2 → Ev E m_gr_burns 0 [(0, .ref (S.2.2.2.1 m)), (1, .int x)] [] Y (0, 0) (CP S X (l ++ bE (S.2.2.2.2.1 m)) (bV (S.2.2.2.2.1 m) (gI X 67 m) (nI m) x) Y)) ∧ ((S.2.2.2.2.1 m) = 6 → Ev E m_ri_burns 0 [(0, .ref (S.2.2.2.1 m)), (1, .int x)] [] Y (0, 0) (CP S X (l ++ bE (S.2.2.2.2.1 m)) (bV (S.2.2.2.2.1 m) (gI X 67 m) (nI m) x) Y)) ∧ ((S.2.2.2.2.1 m) = 7 → Ev E m_ri_burns 0 [(0, .ref (S.2.2.2.1 m)), (1, .int x)] [] Y (0, 0) (CP S X (l ++ bE (S.2.2.2.2.1 m)) (bV (S.2.2.2.2.1 m) (gI X 67 m) (nI m) x) Y)) := by
  have r := lY.2.2.2.1 m hm
  obtain ⟨⟨m1, m2, m3, -⟩, -⟩ := h.mod.2 m hm
  have ll : ∀ v : Int32, (l ++ [v]).length < 20 := fun v => by simp; omega
  refine ⟨fun e => ?_, fun e => ?_, fun e => ?_, fun e => ?_⟩
  · refine b_fi_burns_0 lY r.2.1 r.2.2.2.2 ⟨r.2.2.2.1, _, s_begin (by omega) lY c 40, fun q Y1 ⟨x1, x2, x3, x4⟩ => ⟨x1, x2, (x2.2.2.2.1 m hm).2.1, _, s_ri_burns h (ll 40) x2 x4 hm x, fun q Y2 ⟨y1, y2, y3, y4⟩ => ⟨_, y1, y2, (y2.2.2.2.1 m hm).2.1, ?_⟩⟩⟩
    rw [cf_md y4 y2 hm, mc_ne h.lay hm, m1, e]
    rw [List.append_assoc] at y4
    exact ⟨rfl, y2, r_tr x3 y3, y4⟩
  · refine b_gr_burns_0 lY r.2.1 r.2.2.2.2 ⟨r.2.2.2.1, _, s_begin (by omega) lY c 30, fun q Y1 ⟨x1, x2, x3, x4⟩ => ⟨x1, x2, (x2.2.2.2.1 m hm).2.1, _, s_ri_burns h (ll 30) x2 x4 hm x, fun q Y2 ⟨y1, y2, y3, y4⟩ => ⟨_, y1, y2, (y2.2.2.2.1 m hm).2.1, ?_⟩⟩⟩
    rw [e]
    rw [List.append_assoc] at y4
    exact ⟨rfl, y2, r_tr x3 y3, y4⟩
  · rw [e]; exact s_ri_burns h (by omega) lY c hm x
  · rw [e]; exact s_ri_burns h (by omega) lY c hm x
theorem s_ri_warms (h : Inv N S X) {l : List Int32} (hl : l.length < 18) (lY : Lay S Y) (c : Cf (trX l X) Y) {m : Nat} (hm : m < S.2.1) (x : Int32) : Ev E m_ri_warms 0 [(0, .ref (S.2.2.2.1 m)), (1, .int x)] [] Y (0, 0) (CP S X (l ++ ([11] ++ bE (S.2.2.2.2.1 m))) (bV (S.2.2.2.2.1 m) (gI X 67 m) (nI m) x * 2) Y) := by
  have r := lY.2.2.2.1 m hm
  refine b_ri_warms_0 lY r.2.1 r.2.2.2.2 ⟨r.2.2.2.1, _, s_begin (by omega) lY c 11, fun q Y1 ⟨x1, x2, x3, x4⟩ => ⟨x1, x2, (x2.2.2.2.1 m hm).2.1, _, s_c_burns h (by simp; omega) x2 x4 hm x, fun q Y2 ⟨y1, y2, y3, y4⟩ => ⟨_, y1, y2, (y2.2.2.2.1 m hm).2.1, rfl, y2, r_tr x3 y3, ?_⟩⟩⟩
  rw [List.append_assoc] at y4
  exact y4
theorem s_c_warms (h : Inv N S X) {l : List Int32} (hl : l.length < 14) (lY : Lay S Y) (c : Cf (trX l X) Y) {m : Nat} (hm : m < S.2.1) (x : Int32) : ((S.2.2.2.2.1 m) = 1 → Ev E m_fi_warms 0 [(0, .ref (S.2.2.2.1 m)), (1, .int x)] [] Y (0, 0) (CP S X (l ++ wE (S.2.2.2.2.1 m)) (wV (S.2.2.2.2.1 m) (gI X 67 m) (nI m) x) Y)) ∧ ((S.2.2.2.2.1 m) = 2 → Ev E m_ov_warms 0 [(0, .ref (S.2.2.2.1 m)), (1, .int x)] [] Y (0, 0) (CP S X (l ++ wE (S.2.2.2.2.1 m)) (wV (S.2.2.2.2.1 m) (gI X 67 m) (nI m) x) Y)) ∧ ((S.2.2.2.2.1 m) = 6 → Ev E m_ov_warms 0 [(0, .ref (S.2.2.2.1 m)), (1, .int x)] [] Y (0, 0) (CP S X (l ++ wE (S.2.2.2.2.1 m)) (wV (S.2.2.2.2.1 m) (gI X 67 m) (nI m) x) Y)) ∧ ((S.2.2.2.2.1 m) = 7 → Ev E m_ri_warms 0 [(0, .ref (S.2.2.2.1 m)), (1, .int x)] [] Y (0, 0) (CP S X (l ++ wE (S.2.2.2.2.1 m)) (wV (S.2.2.2.2.1 m) (gI X 67 m) (nI m) x) Y)) := by
  have r := lY.2.2.2.1 m hm
  have bl := bE_l (S.2.2.2.2.1 m)
  obtain ⟨⟨m1, m2, m3, -⟩, -⟩ := h.mod.2 m hm
  have ov : (S.2.2.2.2.1 m) = 6 ∨ (S.2.2.2.2.1 m) = 2 → Ev E m_ov_warms 0 [(0, .ref (S.2.2.2.1 m)), (1, .int x)] [] Y (0, 0) (CP S X (l ++ wE (S.2.2.2.2.1 m)) (wV (S.2.2.2.2.1 m) (gI X 67 m) (nI m) x) Y) := fun e => by
    refine b_ov_warms_0 lY r.2.1 r.2.2.2.2 ⟨r.2.2.2.1, _, s_begin (by omega) lY c 20, fun q Y1 ⟨x1, x2, x3, x4⟩ => ⟨x1, x2, (x2.2.2.2.1 m hm).2.1, _, s_ri_warms h (by simp; omega) x2 x4 hm x, fun q Y2 ⟨y1, y2, y3, y4⟩ => ⟨_, y1, y2, (y2.2.2.2.1 m hm).2.1, ?_⟩⟩⟩
    rw [cf_md y4 y2 hm, mc_ne h.lay hm, m1]
    unfold wE wV
    rw [if_pos e, if_pos e]
    rw [List.append_assoc] at y4
    exact ⟨rfl, y2, r_tr x3 y3, y4⟩
  refine ⟨fun e => ?_, fun e => ov (Or.inr e), fun e => ov (Or.inl e), fun e => ?_⟩
  · have r2 := r.2.1
    rw [e] at r2
    refine b_fi_warms_0 lY r2 ⟨r.2.2.2.1, _, s_begin (by omega) lY c 41, fun q Y1 ⟨x1, x2, x3, x4⟩ => ⟨x1, x2, by rw [← e]; exact (x2.2.2.2.1 m hm).2.1, _, s_ri_warms h (by simp; omega) x2 x4 hm x, fun q Y2 ⟨y1, y2, y3, y4⟩ => ⟨_, y1, y2, by rw [← e]; exact (y2.2.2.2.1 m hm).2.1, _, (s_c_burns h (by simp; omega) y2 y4 hm x).1 e, fun q Y3 ⟨z1, z2, z3, z4⟩ => ⟨_, z1, z2, by rw [← e]; exact (z2.2.2.2.1 m hm).2.1, ?_⟩⟩⟩⟩
    unfold wE wV
    rw [if_neg (by omega), if_pos e, if_neg (by omega), if_pos e]
    refine ⟨rfl, z2, r_tr x3 (r_tr y3 z3), ?_⟩
    simp only [List.append_assoc] at z4 ⊢
    exact z4
  · unfold wE wV
    rw [if_neg (by omega), if_neg (by omega), if_neg (by omega), if_neg (by omega)]
    exact s_ri_warms h (by omega) lY c hm x
theorem s_ri_fits (h : Inv N S X) {l : List Int32} (hl : l.length < 10) (lY : Lay S Y) (c : Cf (trX l X) Y) {m : Nat} (hm : m < S.2.1) (x : Int32) : Ev E m_ri_fits 0 [(0, .ref (S.2.2.2.1 m)), (1, .int x)] [] Y (0, 0) (CP S X (l ++ gE (S.2.2.2.2.1 m)) (gV (S.2.2.2.2.1 m) (gI X 67 m) (nI m) x) Y) := by
  have r := lY.2.2.2.1 m hm
  have wl := wE_l (S.2.2.2.2.1 m)
  obtain ⟨⟨m1, m2, m3, -⟩, -⟩ := h.mod.2 m hm
  refine b_ri_fits_0 lY r.2.1 r.2.2.2.2 ⟨r.2.2.2.1, _, s_begin (by omega) lY c 12, fun q Y1 ⟨x1, x2, x3, x4⟩ => ⟨x1, x2, (x2.2.2.2.1 m hm).2.1, _, s_c_warms h (by simp; omega) x2 x4 hm x, fun q Y2 ⟨y1, y2, y3, y4⟩ => ⟨_, y1, y2, (y2.2.2.2.1 m hm).2.1, ?_⟩⟩⟩
  rw [cf_md y4 y2 hm, mc_ne h.lay hm, m1]
  refine ⟨_, s_c_burns h (by simp; omega) y2 y4 hm _, fun q Y3 ⟨z1, z2, z3, z4⟩ => ⟨_, z1, z2, (z2.2.2.2.1 m hm).2.1, rfl, z2, r_tr x3 (r_tr y3 z3), ?_⟩⟩
  unfold gE
  simp only [List.append_assoc] at z4 ⊢
  exact z4
theorem s_gr_fits (h : Inv N S X) {l : List Int32} (hl : l.length < 9) (lY : Lay S Y) (c : Cf (trX l X) Y) {m : Nat} (hm : m < S.2.1) (x : Int32) : Ev E m_gr_fits 0 [(0, .ref (S.2.2.2.1 m)), (1, .int x)] [] Y (0, 0) (CP S X (l ++ ([31] ++ gE (S.2.2.2.2.1 m))) (gV (S.2.2.2.2.1 m) (gI X 67 m) (nI m) (x - 1)) Y) := by
  have r := lY.2.2.2.1 m hm
  refine b_gr_fits_0 lY r.2.1 r.2.2.2.2 ⟨r.2.2.2.1, _, s_begin (by omega) lY c 31, fun q Y1 ⟨x1, x2, x3, x4⟩ => ⟨x1, x2, (x2.2.2.2.1 m hm).2.1, _, s_ri_fits h (by simp; omega) x2 x4 hm _, fun q Y2 ⟨y1, y2, y3, y4⟩ => ⟨_, y1, y2, (y2.2.2.2.1 m hm).2.1, rfl, y2, r_tr x3 y3, ?_⟩⟩⟩
  rw [List.append_assoc] at y4
  exact y4
theorem s_r_br (h : Inv N S X) {l : List Int32} (hl : l.length < 20) (lY : Lay S Y) (c : Rf (trX l X) Y) {m : Nat} (hm : m < 12) (x : Int32) : Ev E m_mo_burnsRing 0 [(0, .ref 55), (1, .int (nI m)), (2, .int x)] [] Y (0, 0) (RP S X (l ++ [10]) (x + gI X 67 m) Y) := by
  refine b_mo_burnsRing_0 lY ⟨_, s_body hl lY c 10, fun q Y1 ⟨x1, x2, x3, x4⟩ => ⟨x1, x2, vin hm (by omega), ?_⟩⟩
  rw [nI_c (by omega), x4 67 m rfl, tr_ne (by omega) (by omega) (by omega) (by omega)]
  exact ⟨rfl, x2, x3, x4⟩
theorem kd_k {k : Nat} (hg : k < 13 ∧ gp_gid k = 7) : (kdF k = 2 ↔ k = 2) ∧ (kdF k = 3 ↔ k = 1) ∧ (kdF k = 1 ↔ k = 6) := by
  rcases gp_ring hg with e | e | e | e <;> subst e <;> decide
theorem s_r_burns (h : Inv N S X) {l : List Int32} (hl : l.length < 19) (lY : Lay S Y) (c : Rf (trX l X) Y) {m : Nat} (hm : m < S.2.1) (x : Int32) : Ev E m_mo_burns 0 [(0, .ref 55), (1, .int (nI m)), (2, .int x)] [] Y (0, 0) (RP S X (l ++ bE (S.2.2.2.2.1 m)) (bV (S.2.2.2.2.1 m) (gI X 67 m) (nI m) x) Y) := by
  have l2 := l12 lY
  have ek : gI X 65 m = kdF (S.2.2.2.2.1 m) := (h.mod.2 m hm).1.2.2.2.2.2
  obtain ⟨t1, t2, t3⟩ := kd_k (md_at lY hm).2.2
  refine b_mo_burns_0 lY ⟨vin (by omega) (by omega), ?_⟩
  rw [nI_c (k := m) (by omega), c 65 m rfl, tr_ne (by omega) (by omega) (by omega) (by omega), ek, t1, t2]
  unfold bE bV
  refine ⟨fun e => ⟨fun e2 => ⟨_, s_r_br h (by omega) lY c (by omega) x, fun q Y1 ⟨x1, x2, x3, x4⟩ => ⟨_, x1, x2, ?_⟩⟩, fun e2 => ⟨_, s_body (by omega) lY c 40, fun q Y1 ⟨x1, x2, x3, x4⟩ => ⟨x1, x2, _, s_r_br h (by simp; omega) x2 x4 (by omega) x, fun q Y2 ⟨y1, y2, y3, y4⟩ => ⟨_, y1, y2, ?_⟩⟩⟩⟩, fun e => ⟨_, s_body (by omega) lY c 30, fun q Y1 ⟨x1, x2, x3, x4⟩ => ⟨x1, x2, _, s_r_br h (by simp; omega) x2 x4 (by omega) x, fun q Y2 ⟨y1, y2, y3, y4⟩ => ⟨_, y1, y2, ?_⟩⟩⟩⟩
  · rw [if_neg e, if_neg e, if_neg e2, if_neg e2]
    exact ⟨rfl, x2, x3, x4⟩
  · rw [if_neg e, if_neg e, if_pos e2, if_pos e2]
    rw [List.append_assoc] at y4
    exact ⟨rfl, y2, c_tr x3 y3, y4⟩
  · rw [if_pos e, if_pos e]
    rw [List.append_assoc] at y4
    exact ⟨rfl, y2, c_tr x3 y3, y4⟩
theorem s_r_wr (h : Inv N S X) {l : List Int32} (hl : l.length < 18) (lY : Lay S Y) (c : Rf (trX l X) Y) {m : Nat} (hm : m < S.2.1) (x : Int32) : Ev E m_mo_warmsRing 0 [(0, .ref 55), (1, .int (nI m)), (2, .int x)] [] Y (0, 0) (RP S X (l ++ ([11] ++ bE (S.2.2.2.2.1 m))) (bV (S.2.2.2.2.1 m) (gI X 67 m) (nI m) x * 2) Y) := by
  refine b_mo_warmsRing_0 lY ⟨_, s_body (by omega) lY c 11, fun q Y1 ⟨x1, x2, x3, x4⟩ => ⟨x1, x2, _, s_r_burns h (by simp; omega) x2 x4 hm x, fun q Y2 ⟨y1, y2, y3, y4⟩ => ⟨_, y1, y2, rfl, y2, c_tr x3 y3, ?_⟩⟩⟩
  rw [List.append_assoc] at y4
  exact y4
theorem s_r_warms (h : Inv N S X) {l : List Int32} (hl : l.length < 14) (lY : Lay S Y) (c : Rf (trX l X) Y) {m : Nat} (hm : m < S.2.1) (x : Int32) : Ev E m_mo_warms 0 [(0, .ref 55), (1, .int (nI m)), (2, .int x)] [] Y (0, 0) (RP S X (l ++ wE (S.2.2.2.2.1 m)) (wV (S.2.2.2.2.1 m) (gI X 67 m) (nI m) x) Y) := by
  have l2 := l12 lY
  have bl := bE_l (S.2.2.2.2.1 m)
  have ek : gI X 65 m = kdF (S.2.2.2.2.1 m) := (h.mod.2 m hm).1.2.2.2.2.2
  obtain ⟨t1, t2, t3⟩ := kd_k (md_at lY hm).2.2
  have w20 : (S.2.2.2.2.1 m) = 6 ∨ (S.2.2.2.2.1 m) = 2 → Ev E m_mo_warms 20 [(0, .ref 55), (1, .int (nI m)), (2, .int x)] [] Y (0, 0) (RP S X (l ++ wE (S.2.2.2.2.1 m)) (wV (S.2.2.2.2.1 m) (gI X 67 m) (nI m) x) Y) := fun e => by
    refine b_mo_warms_20 lY ⟨_, s_body (by omega) lY c 20, fun q Y1 ⟨x1, x2, x3, x4⟩ => ⟨x1, x2, _, s_r_wr h (by simp; omega) x2 x4 hm x, fun q Y2 ⟨y1, y2, y3, y4⟩ => ⟨_, y1, y2, ?_⟩⟩⟩
    unfold wE wV
    rw [if_pos e, if_pos e]
    rw [List.append_assoc] at y4
    exact ⟨rfl, y2, c_tr x3 y3, y4⟩
  refine b_mo_warms_0 lY ⟨vin (by omega) (by omega), ?_⟩
  rw [nI_c (k := m) (by omega), c 65 m rfl, tr_ne (by omega) (by omega) (by omega) (by omega), ek, t1, t2, t3]
  refine ⟨fun e => w20 (Or.inl e), fun e => ⟨fun e2 => ⟨fun e3 => ⟨_, s_r_wr h (by omega) lY c hm x, fun q Y1 ⟨x1, x2, x3, x4⟩ => ⟨_, x1, x2, ?_⟩⟩, fun e3 => ⟨_, s_body (by omega) lY c 41, fun q Y1 ⟨x1, x2, x3, x4⟩ => ⟨x1, x2, _, s_r_wr h (by simp; omega) x2 x4 hm x, fun q Y2 ⟨y1, y2, y3, y4⟩ => ⟨_, y1, y2, _, s_r_burns h (by simp; omega) y2 y4 hm x, fun q Y3 ⟨z1, z2, z3, z4⟩ => ⟨_, z1, z2, ?_⟩⟩⟩⟩⟩, fun e2 => w20 (Or.inr e2)⟩⟩
  · unfold wE wV
    rw [if_neg (by omega), if_neg (by omega), if_neg (by omega), if_neg (by omega)]
    exact ⟨rfl, x2, x3, x4⟩
  · unfold wE wV
    rw [if_neg (by omega), if_pos e3, if_neg (by omega), if_pos e3]
    refine ⟨rfl, z2, c_tr x3 (c_tr y3 z3), ?_⟩
    simp only [List.append_assoc] at z4 ⊢
    exact z4
theorem s_r_fr (h : Inv N S X) {l : List Int32} (hl : l.length < 10) (lY : Lay S Y) (c : Rf (trX l X) Y) {m : Nat} (hm : m < S.2.1) (x : Int32) : Ev E m_mo_fitsRing 0 [(0, .ref 55), (1, .int (nI m)), (2, .int x)] [] Y (0, 0) (RP S X (l ++ gE (S.2.2.2.2.1 m)) (gV (S.2.2.2.2.1 m) (gI X 67 m) (nI m) x) Y) := by
  have wl := wE_l (S.2.2.2.2.1 m)
  refine b_mo_fitsRing_0 lY ⟨_, s_body (by omega) lY c 12, fun q Y1 ⟨x1, x2, x3, x4⟩ => ⟨x1, x2, _, s_r_warms h (by simp; omega) x2 x4 hm x, fun q Y2 ⟨y1, y2, y3, y4⟩ => ⟨_, y1, y2, _, s_r_burns h (by simp; omega) y2 y4 hm _, fun q Y3 ⟨z1, z2, z3, z4⟩ => ⟨_, z1, z2, rfl, z2, c_tr x3 (c_tr y3 z3), ?_⟩⟩⟩⟩
  unfold gE
  simp only [List.append_assoc] at z4 ⊢
  exact z4
def fE (k : Nat) : List Int32 := if k = 2 then [31] ++ gE k else gE k
def fV (k : Nat) (b j x : Int32) : Int32 := if k = 2 then gV k b j (x - 1) else gV k b j x
theorem s_r_fits (h : Inv N S X) (lY : Lay S Y) (c : Rf (trX [] X) Y) {m : Nat} (hm : m < S.2.1) (x : Int32) : Ev E m_mo_fitsBody 0 [(0, .ref 55), (1, .int (nI m)), (2, .int x)] [] Y (0, 0) (RP S X (fE (S.2.2.2.2.1 m)) (fV (S.2.2.2.2.1 m) (gI X 67 m) (nI m) x) Y) := by
  have l2 := l12 lY
  have ek : gI X 65 m = kdF (S.2.2.2.2.1 m) := (h.mod.2 m hm).1.2.2.2.2.2
  obtain ⟨t1, t2, t3⟩ := kd_k (md_at lY hm).2.2
  refine b_mo_fitsBody_0 lY ⟨vin (by omega) (by omega), ?_⟩
  rw [nI_c (k := m) (by omega), c 65 m rfl, tr_ne (by omega) (by omega) (by omega) (by omega), ek, t1]
  unfold fE fV
  refine ⟨fun e => ⟨_, s_r_fr h (by decide) lY c hm x, fun q Y1 ⟨x1, x2, x3, x4⟩ => ⟨_, x1, x2, ?_⟩⟩, fun e => ⟨_, s_body (by decide) lY c 31, fun q Y1 ⟨x1, x2, x3, x4⟩ => ⟨x1, x2, _, s_r_fr h (by decide) x2 x4 hm _, fun q Y2 ⟨y1, y2, y3, y4⟩ => ⟨_, y1, y2, ?_⟩⟩⟩⟩
  · rw [if_neg e, if_neg e]
    exact ⟨rfl, x2, x3, x4⟩
  · rw [if_pos e, if_pos e]
    exact ⟨rfl, y2, c_tr x3 y3, y4⟩
theorem s_c_fits (h : Inv N S X) (lY : Lay S Y) (c : Cf (trX [] X) Y) {m : Nat} (hm : m < S.2.1) (x : Int32) : ((S.2.2.2.2.1 m) = 1 → Ev E m_ri_fits 0 [(0, .ref (S.2.2.2.1 m)), (1, .int x)] [] Y (0, 0) (CP S X (fE (S.2.2.2.2.1 m)) (fV (S.2.2.2.2.1 m) (gI X 67 m) (nI m) x) Y)) ∧ ((S.2.2.2.2.1 m) = 2 → Ev E m_gr_fits 0 [(0, .ref (S.2.2.2.1 m)), (1, .int x)] [] Y (0, 0) (CP S X (fE (S.2.2.2.2.1 m)) (fV (S.2.2.2.2.1 m) (gI X 67 m) (nI m) x) Y)) ∧ ((S.2.2.2.2.1 m) = 6 → Ev E m_ri_fits 0 [(0, .ref (S.2.2.2.1 m)), (1, .int x)] [] Y (0, 0) (CP S X (fE (S.2.2.2.2.1 m)) (fV (S.2.2.2.2.1 m) (gI X 67 m) (nI m) x) Y)) ∧ ((S.2.2.2.2.1 m) = 7 → Ev E m_ri_fits 0 [(0, .ref (S.2.2.2.1 m)), (1, .int x)] [] Y (0, 0) (CP S X (fE (S.2.2.2.2.1 m)) (fV (S.2.2.2.2.1 m) (gI X 67 m) (nI m) x) Y)) := by
  have no : ¬ (S.2.2.2.2.1 m) = 2 → Ev E m_ri_fits 0 [(0, .ref (S.2.2.2.1 m)), (1, .int x)] [] Y (0, 0) (CP S X (fE (S.2.2.2.2.1 m)) (fV (S.2.2.2.2.1 m) (gI X 67 m) (nI m) x) Y) := fun e => by
    unfold fE fV
    rw [if_neg e, if_neg e]
    exact s_ri_fits h (l := []) (by decide) lY c hm x
  refine ⟨fun e => no (by omega), fun e => ?_, fun e => no (by omega), fun e => no (by omega)⟩
  unfold fE fV
  rw [if_pos e, if_pos e]
  exact s_gr_fits h (l := []) (by decide) lY c hm x
theorem fE_l (k : Nat) : (fE k).length ≤ 20 := by
  have := wE_l k
  have := bE_l k
  unfold fE gE
  split <;> (simp; omega)
theorem wh_modelY {x1 : Int32} {A : Nat → Nat → gp_H → Prop} {B : gp_H → Prop} (lY : Lay S Y) (k : gI Y 0 4 = nI S.2.1) (h1 : ∀ j, j < S.2.1 → x1 = nI j → A (S.2.2.2.1 j) (S.2.2.2.2.1 j) Y) (h2 : iw x1 0 (nI S.2.1 - 1) = false → B Y) : ∃ Qz, Ev E m_ga_modelAt 0 [(0, .ref 0), (1, .int x1)] [] Y (0, 0) Qz ∧ ∀ r X4, Qz r X4 → (∃ a k : Nat, r = some (.ref a) ∧ gp_at X4 a (k, 0) ∧ (k < 13 ∧ gp_gid k = 7) ∧ Lay S X4 ∧ A a k X4) ∨ (r = some .null ∧ Lay S X4 ∧ B X4) := by
  have l2 := l12 lY
  cases c : iw x1 0 (nI S.2.1 - 1) with
  | false =>
    refine ⟨_, (b_ga_modelAt_0 (Q := gp_q (some .null) Y) lY ⟨fun z => ?_, fun z => ?_⟩), fun r X4 hq => by obtain ⟨rfl, rfl⟩ := hq; exact Or.inr ⟨rfl, lY, h2 c⟩⟩
    all_goals first | exact ⟨rfl, rfl⟩ | (rw [k] at z; exact bnf c z)
  | true =>
    obtain ⟨j, hj, rfl⟩ := iw_nI (by omega) c
    have l := lY.2.2.2.1 j hj
    refine ⟨_, (b_ga_modelAt_0 (Q := gp_q (some (.ref (S.2.2.2.1 j))) Y) lY ⟨fun z => ?_, fun z => ?_⟩), fun r X4 hq => by obtain ⟨rfl, rfl⟩ := hq; exact Or.inl ⟨_, _, rfl, l.2.1, l.2.2.2.2, lY, h1 j hj rfl⟩⟩
    · rw [k, c] at z; exact absurd z (by decide)
    · refine ⟨vin (by omega) (by omega), S.2.2.2.1 j, S.2.2.2.2.1 j, ?_, l.2.1, l.2.2.2.2, rfl, rfl⟩
      rw [nI_c (by omega)]; exact l.1
end ACT
theorem p_act {E : gp_E} {N : Nat → Nat} {S : gp_S} {X : gp_H} (h : Inv N S X) (x1 x2 x3 : Int32) : Ev E m_ga_act 0 [(0, .ref 0), (1, .int x1), (2, .int x2), (3, .int x3)] [] X (0, 0) (gp_two E m_mo_act [(0, .ref 55), (1, .int x1), (2, .int x2), (3, .int x3)]) := by
  have hL := h.lay
  have l2 := l12 hL
  have lY : Lay S (gp_sI X 13 1 0) := ly_sI hL
  have cY : Cf (trX [] X) (gp_sI X 13 1 0) := fun a k ha => by
    have ha' := cc_or ha
    show (if a = 13 ∧ k = 1 then 0 else gI X a k) = _
    rw [tr_at, if_neg (show ¬ ((a = 14 ∨ a = 103) ∧ k < ([] : List Int32).length) from fun y => Nat.not_lt_zero _ y.2)]
    by_cases z : a = 13 ∧ k = 1
    · rw [if_pos z, if_pos (Or.inl z)]; rfl
    · rw [if_neg z, if_neg (by omega)]
  have rY : Rf X (gp_sI X 13 1 0) := rg_sI (rf_0 X)
  have t0 : ∀ {Y : gp_H}, Rf X Y → Rf (trX [] X) (gp_sI Y 55 65 0) := fun {Y} r a k ha => by
    have hb := isR_lt ha
    show (if a = 55 ∧ k = 65 then 0 else gI Y a k) = _
    rw [tr_at, if_neg (show ¬ ((a = 14 ∨ a = 103) ∧ k < ([] : List Int32).length) from fun y => Nat.not_lt_zero _ y.2)]
    by_cases z : a = 55 ∧ k = 65
    · rw [if_pos z, if_pos (Or.inr z)]; rfl
    · rw [if_neg z, if_neg (by omega)]; exact r a k ha
  have R := fun {Y : gp_H} (lY : Lay S Y) (gY : Rf X Y) {Q} => show _ from by
    have := b_mo_act_0 (E := E) (x1 := x1) (x2 := x2) (x3 := x3) (Q := Q) lY
    rw [t0 gY 55 13 rfl, tr_ne (by decide) (by decide) (by decide) (by decide), h.mod.1.2] at this
    exact this
  have i0 := tr_inv (l := []) h (by decide)
  have fin0 : ∃ N, Inv N S (gp_sI (gp_sI X 13 1 0) 55 65 0) := ⟨N, inv_cr i0 (ly_sI lY) (cg_sI cY) (t0 rY)⟩
  refine b_ga_act_0 hL (wh_modelY lY h.mod.1.1 (fun m hm e => ?_) (fun c1 => ⟨_, S, rfl, lY, R lY rY ⟨fun _ => ⟨rfl, fin0⟩, fun z => bnf c1 z⟩⟩))
  subst e
  have c1 := iw_of hm (show S.2.1 ≤ 100000 by omega)
  refine ⟨fun z => ⟨_, S, rfl, lY, R lY rY ⟨fun y => bne c1 y, fun _ => ⟨fun y => ?_, fun _ => ⟨rfl, fin0⟩⟩⟩⟩, fun e => ⟨_, s_c_burns h (l := []) (by decide) lY cY hm x3, fun r Y ⟨y1, y2, y3, y4⟩ => ⟨_, y1, y2, (y2.2.2.2.1 m hm).2.1, _, S, rfl, y2, R y2 (r_tr rY y3) ⟨fun y => bne c1 y, fun _ => ⟨fun _ => ⟨fun y => absurd e y, fun _ => ⟨_, s_r_burns h (l := []) (by decide) (ly_sI y2) (t0 (r_tr rY y3)) hm x3, fun r Z ⟨z1, z2, z3, z4⟩ => ⟨_, z1, z2, rfl, N, ?_⟩⟩⟩, fun y => ?_⟩⟩⟩⟩, fun e => ⟨_, s_c_warms h (l := []) (by decide) lY cY hm x3, fun r Y ⟨y1, y2, y3, y4⟩ => ⟨_, y1, y2, (y2.2.2.2.1 m hm).2.1, _, S, rfl, y2, R y2 (r_tr rY y3) ⟨fun y => bne c1 y, fun _ => ⟨fun _ => ⟨fun _ => ⟨fun y => absurd e y, fun _ => ⟨_, s_r_warms h (l := []) (by decide) (ly_sI y2) (t0 (r_tr rY y3)) hm x3, fun r Z ⟨z1, z2, z3, z4⟩ => ⟨_, z1, z2, rfl, N, ?_⟩⟩⟩, fun y => ?_⟩, fun y => ?_⟩⟩⟩⟩, fun e => ⟨_, s_c_fits h lY cY hm x3, fun r Y ⟨y1, y2, y3, y4⟩ => ⟨_, y1, y2, (y2.2.2.2.1 m hm).2.1, _, S, rfl, y2, R y2 (r_tr rY y3) ⟨fun y => bne c1 y, fun _ => ⟨fun _ => ⟨fun _ => ⟨fun _ => ⟨_, s_r_fits h (ly_sI y2) (t0 (r_tr rY y3)) hm x3, fun r Z ⟨z1, z2, z3, z4⟩ => ⟨_, z1, z2, rfl, N, ?_⟩⟩, fun y => ?_⟩, fun y => ?_⟩, fun y => ?_⟩⟩⟩⟩⟩
  · obtain ⟨i, hi, rfl⟩ := iw_lt (n := 2) 2 (by decide) y
    rw [nI_toInt (by omega)] at z
    omega
  · exact inv_cr (tr_inv h (by have := bE_l (S.2.2.2.2.1 m); simp; omega)) z2 (c_tr y4 (c_tr (cg_sI (cf_0 Y)) z3)) z4
  · rw [e] at y; exact absurd y (by decide)
  · exact inv_cr (tr_inv h (by have := wE_l (S.2.2.2.2.1 m); simp; omega)) z2 (c_tr y4 (c_tr (cg_sI (cf_0 Y)) z3)) z4
  · rw [e] at y; exact absurd y (by decide)
  · rw [e] at y; exact absurd y (by decide)
  · exact inv_cr (tr_inv h (fE_l _)) z2 (c_tr y4 (c_tr (cg_sI (cf_0 Y)) z3)) z4
  · rw [e] at y; exact absurd y (by decide)
  · rw [e] at y; exact absurd y (by decide)
  · rw [e] at y; exact absurd y (by decide)
