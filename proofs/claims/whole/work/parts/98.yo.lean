section BSP
variable {E : gp_E} {N : Nat → Nat} {S : gp_S} {X Y : gp_H}
def oF (X : gp_H) (s : Nat) : Int32 := if gI X 86 s = 0 then 0 else (1 : Int32) <<< (nI s &&& 31)
theorem o_all (h : Inv N S X) : orF (oF X) (N 7) = gI X 23 3 := by
  obtain ⟨⟨s1, s2, s3⟩, s4, s5, s6, s7, s8, s9, s10, s11⟩ := h.sec
  refine low_ext (n := N 7) (or_low (N 7) (fun k hk => ?_)) ((low_lt (by omega)).mpr ⟨s9, s10⟩) (fun i hi => bt_iff ?_)
  · unfold oF
    split
    · exact low_0 _
    · exact low_shl hk (by omega)
  · rw [or_bt, ← gb_bt _ (by omega), s8 i hi]
    refine ⟨fun ⟨w, hw, e⟩ => ?_, fun e => ⟨i, hi, ?_⟩⟩
    · unfold oF at e
      split at e
      · rw [b_0] at e; exact absurd e (by decide)
      · rename_i q
        rw [bt_shl (by omega) (by omega)] at e
        have : i = w := of_decide_eq_true e
        rw [this, decide_eq_false q]; rfl
    · have q : ¬ gI X 86 i = 0 := fun y => by rw [decide_eq_true y] at e; exact absurd e (by decide)
      unfold oF
      rw [if_neg q, bt_shl (by omega) (by omega)]
      exact decide_eq_true rfl
theorem s_chg (h : Inv N S X) (lY : Lay S Y) (r : Rf X Y) {c : Nat} (ec : gI X 23 3 = nI c) (hc : c < 2 ^ N 7) {Q : Option Value → gp_H → Prop} (g1 : ¬ c + 1 = 2 ^ N 7 → Ev E m_mo_best 56 [(0, .ref 55), (1, .int (nI c)), (2, .int (nI (2 ^ N 7 - 1))), (3, .int (nI (2 ^ N 7) + (-1)))] [] Y (0, 0) Q) (g2 : c + 1 = 2 ^ N 7 → Q (some (.int (-3))) Y) : Ev E m_mo_best 0 [(0, .ref 55)] [] Y (0, 0) Q := by
  obtain ⟨⟨k1, k2, k3⟩, -⟩ := h.sec
  have p8 := p128 k3
  have e37 : gI Y 55 37 = nI (N 7) := (r 55 37 rfl).trans k2
  have pos : 0 < 2 ^ N 7 := Nat.two_pow_pos _
  refine b_mo_best_0 lY ?_
  rw [e37, all_nI k3]
  refine dn (P := fun k => Ev E m_mo_best 13 [(0, .ref 55), (1, .int (orF (oF X) k)), (2, .int (nI (2 ^ N 7 - 1))), (3, .int (nI k))] [] Y (0, 0) Q) (n := N 7) ?_ ?_
  · refine b_mo_best_13 lY ⟨fun _ => ?_, fun z => absurd (by rw [e37]; exact Int32.le_refl _) z⟩
    rw [o_all h, ec, nI_eq (by omega) (by omega)]
    refine ⟨fun z => ?_, fun z => g2 (by omega)⟩
    have := g1 (by omega)
    rw [nI_m pos] at this
    exact this
  · intro k hk ih
    refine b_mo_best_13 lY ⟨fun z => absurd z (by rw [e37]; exact nI_nge hk (by omega)), fun _ => ⟨vin (by omega) (by omega), ?_⟩⟩
    rw [nI_c (k := k) (by omega), r 86 _ rfl, nI_s]
    refine ⟨fun z => ?_, fun z => ?_⟩
    · rw [or_1 (if_pos z)] at ih; exact ih
    · rw [or_1 (if_neg z)] at ih; exact ih
/-- the row so far, on both sides -/
noncomputable def XR (N : Nat → Nat) (S : gp_S) (X : gp_H) (c i : Nat) : gp_H := gp_wI X (fun a k => if (a = 26 ∨ a = 88) ∧ k < i then nI (aW N S X (ch N S X c k)) else if (a = 23 ∧ k = 6) ∨ (a = 55 ∧ k = 42) then nI i else gI X a k)
theorem xr_at (c i a k : Nat) : gI (XR N S X c i) a k = if (a = 26 ∨ a = 88) ∧ k < i then nI (aW N S X (ch N S X c k)) else if (a = 23 ∧ k = 6) ∨ (a = 55 ∧ k = 42) then nI i else gI X a k := rfl
theorem xr_inv (h : Inv N S X) {c i : Nat} (hi : i ≤ 7) : Inv (Nx N i) S (XR N S X c i) := by
  refine iw_y [(26, 0), (88, 0), (23, 6), (55, 42)] false (Nx N i) h (ly_wI h.lay) (fun a k ho _ => ?_) (fun hx => ⟨hx.1, (hx.2.1 rfl), (hx.2.2.1 rfl), (hx.2.2.2.1 rfl), (hx.2.2.2.2.1 rfl), (hx.2.2.2.2.2.1 rfl), (hx.2.2.2.2.2.2.1 rfl), (hx.2.2.2.2.2.2.2.1 rfl), (hx.2.2.2.2.2.2.2.2.1 rfl), (hx.2.2.2.2.2.2.2.2.2.1 rfl), (hx.2.2.2.2.2.2.2.2.2.2.1 rfl), (hx.2.2.2.2.2.2.2.2.2.2.2.1 rfl), ?_, (hx.2.2.2.2.2.2.2.2.2.2.2.2.2.1 rfl), (hx.2.2.2.2.2.2.2.2.2.2.2.2.2.2.1 rfl), (hx.2.2.2.2.2.2.2.2.2.2.2.2.2.2.2.1 rfl), (hx.2.2.2.2.2.2.2.2.2.2.2.2.2.2.2.2.1 rfl), (hx.2.2.2.2.2.2.2.2.2.2.2.2.2.2.2.2.2.1 rfl), (hx.2.2.2.2.2.2.2.2.2.2.2.2.2.2.2.2.2.2.1 rfl), (hx.2.2.2.2.2.2.2.2.2.2.2.2.2.2.2.2.2.2.2.1 rfl), (hx.2.2.2.2.2.2.2.2.2.2.2.2.2.2.2.2.2.2.2.2.1 rfl), (hx.2.2.2.2.2.2.2.2.2.2.2.2.2.2.2.2.2.2.2.2.2 rfl)⟩)
  · have d1 : a ≠ 26 := off_ne ho (26, 0)
    have d2 : a ≠ 88 := off_ne ho (88, 0)
    have d3 := off_sl ho (23, 6)
    have d4 := off_sl ho (55, 42)
    rw [xr_at, if_neg (by omega), if_neg (fun y => y.elim d3 d4)]
  · refine ⟨⟨?_, ?_, hi⟩, fun j hj => ?_⟩
    · rw [xr_at, if_neg (by omega), if_pos (Or.inl ⟨rfl, rfl⟩)]; rfl
    · rw [xr_at, if_neg (by omega), if_pos (Or.inr ⟨rfl, rfl⟩)]; rfl
    · have hj' : j < i := hj
      rw [xr_at, xr_at, if_pos ⟨Or.inl rfl, hj'⟩, if_pos ⟨Or.inr rfl, hj'⟩]
theorem xr_rw (c i : Nat) : Rw X (XR N S X c i) := fun a k ha h1 h2 => by
  have hb := isR_lt ha
  rw [xr_at, if_neg (by omega), if_neg (by omega)]
theorem s_row (h : Inv N S X) (fY : Fb X Y) {c : Nat} (hc : c < 2 ^ N 7) (hl : LL N S X c < 1000000) {Q : Option Value → gp_H → Prop} (g : ∀ Z, Lay S Z → (∀ a k, a ≠ 107 → a ≠ 88 → ¬ (a = 55 ∧ k = 42) → gI Z a k = gI Y a k) → gI Z 55 42 = nI (N 7 - pc c) → (∀ j, j < N 7 - pc c → gI Z 88 j = nI (aW N S X (ch N S X c j))) → Q (some (.int (nI (LL N S X c)))) Z) : ∀ d i (Z : gp_H), d + i = N 7 - pc c → Lay S Z → (∀ a k, a ≠ 107 → ¬ (a = 88 ∧ k < i) → ¬ (a = 55 ∧ k = 42) → gI Z a k = gI Y a k) → gI Z 55 42 = nI i → (∀ j, j < i → gI Z 88 j = nI (aW N S X (ch N S X c j))) → TbR N S X Z c 0 → Ev E m_mo_best 180 [(0, .ref 55), (1, .int (nI c)), (2, .int (nI (2 ^ N 7 - 1))), (3, .int (nI (ch N S X c i)))] [] Z (0, 0) Q := by
  obtain ⟨⟨k1, k2, k3⟩, -⟩ := h.sec
  have p8 := p128 k3
  have pl := (pc_all (N 7) (by omega) c hc).1
  intro d
  induction d with
  | zero =>
    intro i Z e lZ f v42 r88 t
    obtain rfl : i = N 7 - pc c := by omega
    obtain ⟨a1, a2, a3, a4⟩ := ch_ok h hc hl (N 7 - pc c) (by omega)
    have := (pc_all (N 7) (by omega) _ a1).2.1 (by omega)
    refine b_mo_best_180 lZ ?_
    rw [nI_eq (by omega) (by omega), nI_c (k := c) (by omega), t c (by omega) hc (Nat.and_self c), cd_v hl]
    exact ⟨fun _ => ⟨vin (by omega) (by omega), g Z lZ (fun a k z1 z2 z3 => f a k z1 (fun y => z2 y.1) z3) v42 r88⟩, fun z => absurd (by omega) z⟩
  | succ d ih =>
    intro i Z e lZ f v42 r88 t
    obtain ⟨a1, a2, a3, a4⟩ := ch_ok h hc hl i (by omega)
    have na : ¬ ch N S X c i + 1 = 2 ^ N 7 := fun z => by have := (pc_all (N 7) (by omega) _ a1).2.2 z; omega
    obtain ⟨b1, b2, b3, b4, b5, b6⟩ := aW_1 h a1 na a2
    have hR := xr_inv (c := c) (i := i) h (by omega)
    have rZ : Rf (XR N S X c i) Z := fun a k ha => by
      have hb := isR_lt ha
      rw [xr_at]
      by_cases q1 : a = 88 ∧ k < i
      · rw [if_pos ⟨Or.inr q1.1, q1.2⟩, q1.1]; exact r88 k q1.2
      · rw [if_neg (by omega)]
        by_cases q2 : a = 55 ∧ k = 42
        · rw [if_pos (Or.inr q2), q2.1, q2.2]; exact v42
        · rw [if_neg (by omega), f a k (fun y => by rw [y] at ha; exact absurd ha (by decide)) q1 q2]
          exact fY a k (by omega) (by omega) (by omega) (by omega) (by omega)
    have t' : TbR N S X Z c (ch N S X c i + 1) := fun w _ y2 y3 => t w (Nat.zero_le _) y2 y3
    have on : ∀ k, k < N 7 → Ev E m_mo_onWith 0 [(0, .ref 55), (1, .int (nI (ch N S X c i))), (2, .int (nI k))] [] Z (0, 0) (gp_q (some (.int (cd (fW N S X (ch N S X c i) k)))) Z) := fun k hk => s_onWith h hR (xr_rw c i) lZ rZ a1 a4 hk t'
    have v0 : vp_in (nI (ch N S X c i)) 128 := vin (by omega) (by omega)
    refine b_mo_best_180 lZ ?_
    rw [nI_eq (by omega) (by omega)]
    refine ⟨fun z => absurd z (by omega), fun _ => ?_⟩
    refine dn (P := fun k => Ev E m_mo_best 188 [(0, .ref 55), (1, .int (nI c)), (2, .int (nI (2 ^ N 7 - 1))), (3, .int (nI (ch N S X c i))), (4, .int (nI k))] [] Z (0, 0) Q) (n := aW N S X (ch N S X c i)) ?_ ?_
    · refine b_mo_best_188 lZ (wh_i (on _ b1) lZ ?_)
      rw [b2, cd_m]
      refine ⟨fun z => absurd a2 z, fun _ => wh_i (on _ b1) lZ ⟨v0, ?_⟩⟩
      rw [b2, nI_c (k := ch N S X c i) (by omega), t _ (Nat.zero_le _) a1 a4, v42, w_or k3 a1 b1, nI_c (k := i) (by omega), nI_s i]
      refine ⟨fun _ => ⟨vin (by omega) (by omega), ih (i + 1) _ (by omega) (ly_sI (ly_sI lZ)) (fun a k z1 z2 z3 => ?_) rfl (fun j hj => ?_) (fun w y1 y2 y3 => t w y1 y2 y3)⟩, fun z => absurd rfl z⟩
      · exact (if_neg z3).trans ((if_neg (by omega)).trans (f a k z1 (by omega) z3))
      · show (if 88 = 55 ∧ j = 42 then nI (i + 1) else if 88 = 88 ∧ j = i then nI (aW N S X (ch N S X c i)) else gI Z 88 j) = _
        rw [if_neg (by omega)]
        by_cases q : j = i
        · rw [if_pos ⟨rfl, q⟩, q]
        · rw [if_neg (by omega)]; exact r88 j (by omega)
    · intro k hk ih2
      refine b_mo_best_188 lZ (wh_i (on k (by omega)) lZ ?_)
      rw [cd_m, nI_s]
      refine ⟨fun _ => ih2, fun z => wh_i (on k (by omega)) lZ ⟨v0, ?_⟩⟩
      have z' : fW N S X (ch N S X c i) k < 1000000 := Classical.byContradiction z
      rw [nI_c (k := ch N S X c i) (by omega), t _ (Nat.zero_le _) a1 a4, cd_v z', cd_v a2, nI_eq (by omega) (by omega)]
      exact ⟨fun y => absurd y (b3 k hk), fun _ => ih2⟩
end BSP
theorem p_best {E : gp_E} {N : Nat → Nat} {S : gp_S} {X : gp_H} (h : Inv N S X) : Ev E m_ga_best 0 [(0, .ref 0)] [] X (0, 0) (gp_two E m_mo_best [(0, .ref 55)]) := by
  have hL := h.lay
  have h1 := lkX_inv h
  have l1 := h1.lay
  obtain ⟨⟨k1, k2, k3⟩, -, -, -, -, -, s9, s10, -⟩ := h1.sec
  have p8 := p128 k3
  obtain ⟨c, hc, -, ec⟩ := low_nat ((low_lt (by omega)).mpr ⟨s9, s10⟩)
  have pl := (pc_all (N 7) (by omega) c hc).1
  generalize eX : lkX N S X = X1 at h1 l1 k1 k2 s9 s10 ec
  have lk : ∀ k, k < 12 → gI X1 27 k = lkV N S X1 k := by rw [← eX]; exact fun k hk => lkX_lk k hk
  have sc : Ev E m_ga_countLack 0 [(0, .ref 0)] [] X (0, 0) (gp_q none X1) := by rw [← eX]; exact s_ga_countLack h
  refine b_ga_best_0 hL (wh_n sc l1 ?_)
  by_cases na : c + 1 = 2 ^ N 7
  · refine wh_i (b_se_findBestRow_0 (Q := gp_q (some (.int (-3))) X1) l1 ?_) l1 ⟨_, S, rfl, l1, s_chg h1 l1 (rf_0 X1) ec hc (fun z => absurd na z) (fun _ => ⟨rfl, N, h1⟩)⟩
    rw [k1, all_nI k3, ec, nI_eq (by omega) (by omega)]
    exact ⟨fun z => absurd (by omega) z, fun _ => ⟨rfl, rfl⟩⟩
  · refine ⟨_, s_findBest h1 lk ec hc na, fun r Y ⟨y1, y2, y3⟩ => ?_⟩
    have rY : Rf X1 Y := fun a k ha => by
      have hb := isR_lt ha
      exact y2 a k (by omega) (by omega) (by omega) (by omega) (by omega)
    have eA : (2 : Nat) ^ N 7 = 2 ^ N 7 := rfl
    rcases y3 with ⟨hl, e1, e2, e3⟩ | ⟨hl, e1, e2⟩
    · refine ⟨_, e1, y1, _, S, rfl, y1, s_chg h1 y1 rY ec hc (fun _ => ?_) (fun z => absurd z na)⟩
      refine s_least (Y := Y) h1 hc na (fun Z lZ rZ fZ tZ => ?_) (2 ^ N 7) Y (Nat.le_refl _) y1 rY (fun _ _ _ => rfl) (fun w q1 q2 => absurd q2 (by omega))
      refine b_mo_best_56 lZ ⟨fun _ => ⟨vin (by omega) (by omega), ?_⟩, fun z => absurd (by decide) z⟩
      rw [nI_c (k := c) (by omega), tZ c (Nat.zero_le _) hc (Nat.and_self c), cd_m]
      refine ⟨fun _ => ?_, fun z => absurd hl z⟩
      refine s_row h1 y2 hc hl (fun W lW fW v42 r88 => ⟨rfl, ?_⟩) (N 7 - pc c) 0 _ rfl (ly_sI lZ) (fun a k z1 z2 z3 => (if_neg z3).trans (fZ a k z1)) rfl (fun j hj => absurd hj (Nat.not_lt_zero _)) (fun w q1 q2 q3 => tZ w q1 q2 q3)
      refine iv_y [(26, 0), (88, 0), (23, 6), (55, 42), (28, 0), (29, 0), (30, 0), (107, 0)] false (Nx N (N 7 - pc c)) h1 lW (fun a k ho _ => ?_) (fun hx => ⟨hx.1, (hx.2.1 rfl), (hx.2.2.1 rfl), (hx.2.2.2.1 rfl), (hx.2.2.2.2.1 rfl), (hx.2.2.2.2.2.1 rfl), (hx.2.2.2.2.2.2.1 rfl), (hx.2.2.2.2.2.2.2.1 rfl), (hx.2.2.2.2.2.2.2.2.1 rfl), (hx.2.2.2.2.2.2.2.2.2.1 rfl), (hx.2.2.2.2.2.2.2.2.2.2.1 rfl), (hx.2.2.2.2.2.2.2.2.2.2.2.1 rfl), ?_, (hx.2.2.2.2.2.2.2.2.2.2.2.2.2.1 rfl), (hx.2.2.2.2.2.2.2.2.2.2.2.2.2.2.1 rfl), (hx.2.2.2.2.2.2.2.2.2.2.2.2.2.2.2.1 rfl), (hx.2.2.2.2.2.2.2.2.2.2.2.2.2.2.2.2.1 rfl), (hx.2.2.2.2.2.2.2.2.2.2.2.2.2.2.2.2.2.1 rfl), (hx.2.2.2.2.2.2.2.2.2.2.2.2.2.2.2.2.2.2.1 rfl), (hx.2.2.2.2.2.2.2.2.2.2.2.2.2.2.2.2.2.2.2.1 rfl), (hx.2.2.2.2.2.2.2.2.2.2.2.2.2.2.2.2.2.2.2.2.1 rfl), (hx.2.2.2.2.2.2.2.2.2.2.2.2.2.2.2.2.2.2.2.2.2 rfl)⟩)
      · have d1 : a ≠ 26 := off_ne ho (26, 0)
        have d2 : a ≠ 88 := off_ne ho (88, 0)
        have d5 : a ≠ 28 := off_ne ho (28, 0)
        have d6 : a ≠ 29 := off_ne ho (29, 0)
        have d7 : a ≠ 30 := off_ne ho (30, 0)
        have d8 : a ≠ 107 := off_ne ho (107, 0)
        exact (fW a k d8 d2 (off_sl ho (55, 42))).trans (y2 a k d5 d6 d7 d1 (off_sl ho (23, 6)))
      · refine ⟨⟨(fW 23 6 (by decide) (by decide) (by decide)).trans e2, v42, show N 7 - pc c ≤ 7 by omega⟩, fun j hj => ?_⟩
        rw [fW 26 j (by decide) (by decide) (by omega), e3 j hj, r88 j hj]
    · have hY := sm_inv h1 y1 e2
      refine ⟨_, e1, y1, _, S, rfl, y1, s_chg h1 y1 rY ec hc (fun _ => ?_) (fun z => absurd z na)⟩
      refine s_least (Y := Y) h1 hc na (fun Z lZ rZ fZ tZ => ?_) (2 ^ N 7) Y (Nat.le_refl _) y1 rY (fun _ _ _ => rfl) (fun w q1 q2 => absurd q2 (by omega))
      refine b_mo_best_56 lZ ⟨fun _ => ⟨vin (by omega) (by omega), ?_⟩, fun z => absurd (by decide) z⟩
      rw [nI_c (k := c) (by omega), tZ c (Nat.zero_le _) hc (Nat.and_self c), cd_m]
      refine ⟨fun z => absurd hl z, fun _ => ⟨rfl, ?_⟩⟩
      exact iv_y [(107, 0)] false N hY lZ (fun a k ho _ => fZ a k (off_ne ho (107, 0))) (fun hx => ⟨hx.1, (hx.2.1 rfl), (hx.2.2.1 rfl), (hx.2.2.2.1 rfl), (hx.2.2.2.2.1 rfl), (hx.2.2.2.2.2.1 rfl), (hx.2.2.2.2.2.2.1 rfl), (hx.2.2.2.2.2.2.2.1 rfl), (hx.2.2.2.2.2.2.2.2.1 rfl), (hx.2.2.2.2.2.2.2.2.2.1 rfl), (hx.2.2.2.2.2.2.2.2.2.2.1 rfl), (hx.2.2.2.2.2.2.2.2.2.2.2.1 rfl), (hx.2.2.2.2.2.2.2.2.2.2.2.2.1 rfl), (hx.2.2.2.2.2.2.2.2.2.2.2.2.2.1 rfl), (hx.2.2.2.2.2.2.2.2.2.2.2.2.2.2.1 rfl), (hx.2.2.2.2.2.2.2.2.2.2.2.2.2.2.2.1 rfl), (hx.2.2.2.2.2.2.2.2.2.2.2.2.2.2.2.2.1 rfl), (hx.2.2.2.2.2.2.2.2.2.2.2.2.2.2.2.2.2.1 rfl), (hx.2.2.2.2.2.2.2.2.2.2.2.2.2.2.2.2.2.2.1 rfl), (hx.2.2.2.2.2.2.2.2.2.2.2.2.2.2.2.2.2.2.2.1 rfl), (hx.2.2.2.2.2.2.2.2.2.2.2.2.2.2.2.2.2.2.2.2.1 rfl), (hx.2.2.2.2.2.2.2.2.2.2.2.2.2.2.2.2.2.2.2.2.2 rfl)⟩)
