section CHG
variable {E : gp_E} {N : Nat → Nat} {S : gp_S} {X Y : gp_H}
theorem cc_or {a : Nat} (h : (Nat.blt a 55 || Nat.ble 114 a) = true) : a < 55 ∨ 114 ≤ a := by
  rcases Bool.or_eq_true _ _ ▸ h with z | z
  · exact Or.inl (Nat.le_of_ble_eq_true z)
  · exact Or.inr (Nat.le_of_ble_eq_true z)
def pn (N : Nat → Nat) (i0 : Nat) : Nat := if i0 < N 8 then N 8 - 1 else N 8
def caV (X : gp_H) (s : Nat) : Int32 := gI X 23 3 ||| ((1 : Int32) <<< (nI s &&& 31))
/-- a sector is changed: it leaves the plan -/
def TA (N : Nat → Nat) (X : gp_H) (s i0 : Nat) : gp_H := gp_wI X (fun a k => if (a = 25 ∨ a = 87) ∧ i0 ≤ k ∧ k + 1 < N 8 then gI X a (k + 1) else if a = 23 ∧ k = 3 then caV X s else if a = 86 ∧ k = s then 1 else if (a = 23 ∧ k = 4) ∨ (a = 55 ∧ k = 40) then nI (pn N i0) else gI X a k)
theorem ta_at (a k s i0 : Nat) : gI (TA N X s i0) a k = if (a = 25 ∨ a = 87) ∧ i0 ≤ k ∧ k + 1 < N 8 then gI X a (k + 1) else if a = 23 ∧ k = 3 then caV X s else if a = 86 ∧ k = s then 1 else if (a = 23 ∧ k = 4) ∨ (a = 55 ∧ k = 40) then nI (pn N i0) else gI X a k := rfl
def tN (N : Nat → Nat) (i0 : Nat) : Nat → Nat := fun i => if i = 8 then pn N i0 else N i
def At8 (N : Nat → Nat) (X : gp_H) (s i0 : Nat) : Prop := ∀ i, i < N 8 → (gI X 87 i = nI s ↔ i = i0)
theorem at8_ex (h : Inv N S X) (s : Nat) : ∃ i0, At8 N X s i0 := by
  by_cases z : ∃ i, i < N 8 ∧ gI X 87 i = nI s
  · obtain ⟨i, hi, e⟩ := z
    exact ⟨i, fun j hj => ⟨fun y => h.pln.2.2 j i hj hi (y.trans e.symm), fun y => by rw [y]; exact e⟩⟩
  · exact ⟨N 8, fun j hj => ⟨fun y => absurd ⟨j, hj, y⟩ z, fun y => absurd hj (by omega)⟩⟩
theorem s_setChanged (h : Inv N S X) (lY : Lay S Y) (c : Cf X Y) {s i0 : Nat} (g : At8 N X s i0) : Ev E m_se_setChanged 0 [(0, .ref 23), (1, .int (nI s))] [] Y (0, 0) (fun r Y' => r = none ∧ Lay S Y' ∧ Rf Y Y' ∧ Cf (TA N X s i0) Y') := by
  obtain ⟨⟨k1, k2, k3⟩, q1, q2⟩ := h.pln
  have go : ∀ d i (Y1 : gp_H), d + i = N 8 → Lay S Y1 → Rf Y Y1 → (∀ a k, (Nat.blt a 55 || Nat.ble 114 a) = true → gI Y1 a k = if a = 25 ∧ i0 ≤ k ∧ k + 1 < i then gI X 25 (k + 1) else if a = 23 ∧ k = 3 then caV X s else gI X a k) → Ev E m_se_setChanged 16 [(0, .ref 23), (1, .int (nI s)), (2, .int (nI (if i ≤ i0 then i else i - 1))), (3, .int (nI i))] [] Y1 (0, 0) (fun r Y' => r = none ∧ Lay S Y' ∧ Rf Y Y' ∧ Cf (TA N X s i0) Y') := by
    intro d
    induction d with
    | zero =>
      intro i Y1 e l1 r1 c1
      obtain rfl : i = N 8 := by omega
      refine b_se_setChanged_16 l1 ⟨fun _ => ⟨rfl, ly_sI l1, rg_sI r1, fun a k ha => ?_⟩, fun z => absurd ?_ z⟩
      · have ha' := cc_or ha
        show (if a = 23 ∧ k = 4 then _ else gI Y1 a k) = _
        rw [c1 a k ha, ta_at]
        by_cases z1 : a = 25 ∧ i0 ≤ k ∧ k + 1 < N 8
        · rw [if_neg (by omega), if_pos z1, if_pos ⟨Or.inl z1.1, z1.2⟩, z1.1]
        · by_cases z2 : a = 23 ∧ k = 4
          · rw [if_pos z2, if_neg (show ¬ ((a = 25 ∨ a = 87) ∧ i0 ≤ k ∧ k + 1 < N 8) by omega), if_neg (show ¬ (a = 23 ∧ k = 3) by omega), if_neg (show ¬ (a = 86 ∧ k = s) by omega), if_pos (Or.inl z2)]
            unfold pn
            by_cases y : i0 < N 8
            · rw [if_pos y, if_neg (show ¬ N 8 ≤ i0 by omega)]
            · rw [if_neg y, if_pos (show N 8 ≤ i0 by omega)]
          · rw [if_neg z2, if_neg z1, if_neg (show ¬ ((a = 25 ∨ a = 87) ∧ i0 ≤ k ∧ k + 1 < N 8) by omega)]
            by_cases z3 : a = 23 ∧ k = 3
            · rw [if_pos z3, if_pos z3]
            · rw [if_neg z3, if_neg z3, if_neg (show ¬ (a = 86 ∧ k = s) by omega), if_neg (show ¬ ((a = 23 ∧ k = 4) ∨ (a = 55 ∧ k = 40)) by omega)]
      · rw [c1 23 4 rfl, if_neg (by omega), if_neg (by omega), k1]; exact Int32.le_refl _
    | succ d ih =>
      intro i Y1 e l1 r1 c1
      have hi : i < N 8 := by omega
      have e4 : gI Y1 23 4 = nI (N 8) := by rw [c1 23 4 rfl, if_neg (by omega), if_neg (by omega), k1]
      have e25 : gI Y1 25 i = gI X 87 i := by rw [c1 25 i rfl, if_neg (by omega), if_neg (by omega), (q1 i hi).1]
      refine b_se_setChanged_16 l1 ⟨fun z => absurd z (by rw [e4]; exact nI_nge hi (by omega)), fun _ => ⟨vin (by omega) (by omega), ?_⟩⟩
      rw [nI_c (k := i) (by omega), e25, g i hi, nI_s]
      refine ⟨fun z => ?_, fun z => ⟨?_, ?_⟩⟩
      · have := ih (i + 1) Y1 (by omega) l1 r1 (fun a k ha => by
          rw [c1 a k ha]
          by_cases z1 : a = 25 ∧ i0 ≤ k ∧ k + 1 < i
          · rw [if_pos z1, if_pos (by omega)]
          · rw [if_neg z1, if_neg (show ¬ (a = 25 ∧ i0 ≤ k ∧ k + 1 < i + 1) by omega)])
        rw [if_neg (by omega)] at this
        rw [if_pos (by omega)]
        exact this
      · split
        · exact vin (by omega) (by omega)
        · exact vin (by omega) (by omega)
      · by_cases y : i ≤ i0
        · have := ih (i + 1) (gp_sI Y1 25 i (gI X 87 i)) (by omega) (ly_sI l1) (rg_sI r1) (fun a k ha => by
            show (if a = 25 ∧ k = i then _ else gI Y1 a k) = _
            by_cases z1 : a = 25 ∧ k = i
            · rw [if_pos z1, if_neg (show ¬ (a = 25 ∧ i0 ≤ k ∧ k + 1 < i + 1) by omega), if_neg (show ¬ (a = 23 ∧ k = 3) by omega), z1.1, z1.2, (q1 i hi).1]
            · rw [if_neg z1, c1 a k ha]
              by_cases z2 : a = 25 ∧ i0 ≤ k ∧ k + 1 < i
              · rw [if_pos z2, if_pos (by omega)]
              · rw [if_neg z2, if_neg (show ¬ (a = 25 ∧ i0 ≤ k ∧ k + 1 < i + 1) by omega)])
          rw [if_pos (by omega)] at this
          rw [if_pos y, nI_s, nI_c (k := i) (by omega)]
          exact this
        · have := ih (i + 1) (gp_sI Y1 25 (i - 1) (gI X 87 i)) (by omega) (ly_sI l1) (rg_sI r1) (fun a k ha => by
            show (if a = 25 ∧ k = i - 1 then _ else gI Y1 a k) = _
            by_cases z1 : a = 25 ∧ k = i - 1
            · rw [if_pos z1, if_pos (by omega), z1.2, show i - 1 + 1 = i by omega, (q1 i hi).1]
            · rw [if_neg z1, c1 a k ha]
              by_cases z2 : a = 25 ∧ i0 ≤ k ∧ k + 1 < i
              · rw [if_pos z2, if_pos (by omega)]
              · rw [if_neg z2, if_neg (show ¬ (a = 25 ∧ i0 ≤ k ∧ k + 1 < i + 1) by omega)])
          rw [if_neg (by omega)] at this
          rw [if_neg y, nI_s, nI_c (k := i - 1) (by omega), show i - 1 + 1 = i by omega]
          exact this
  refine b_se_setChanged_0 lY ?_
  have := go (N 8) 0 (gp_sI Y 23 3 (caV X s)) rfl (ly_sI lY) (rg_sI (rf_0 Y)) (fun a k ha => by
    show (if a = 23 ∧ k = 3 then _ else gI Y a k) = _
    rw [if_neg (show ¬ (a = 25 ∧ i0 ≤ k ∧ k + 1 < 0) by omega), c a k ha])
  rw [if_pos (Nat.zero_le _)] at this
  have e3 : gI Y 23 3 = gI X 23 3 := c 23 3 rfl
  rw [e3]
  exact this
theorem s_shift (h : Inv N S X) {s i0 : Nat} (hi0 : i0 < N 8) {Q : Option Value → gp_H → Prop} {x1 : Int32} (g : ∀ Y' : gp_H, Lay S Y' → Cf Y Y' → Rf (TA N X s i0) Y' → Ev E m_mo_change 93 [(0, .ref 55), (1, .int x1), (2, .int (nI i0)), (3, .int 0)] [] Y' (0, 0) Q) : ∀ d j (Y1 : gp_H), d + j = N 8 → i0 < j → Lay S Y1 → Cf Y Y1 → (∀ a k, isR a = true → gI Y1 a k = if a = 87 ∧ i0 ≤ k ∧ k + 1 < j then gI X 87 (k + 1) else if a = 86 ∧ k = s then 1 else gI X a k) → Ev E m_mo_change 53 [(0, .ref 55), (1, .int x1), (2, .int (nI i0)), (3, .int (nI j))] [] Y1 (0, 0) Q := by
  obtain ⟨⟨k1, k2, k3⟩, q1, q2⟩ := h.pln
  intro d
  induction d with
  | zero =>
    intro j Y1 e hj l1 c1 r1
    obtain rfl : j = N 8 := by omega
    have e40 : gI Y1 55 40 = nI (N 8) := by rw [r1 55 40 rfl, if_neg (by omega), if_neg (by omega), k2]
    refine b_mo_change_53 l1 ⟨fun _ => ?_, fun z => absurd (by rw [e40]; exact Int32.le_refl _) z⟩
    refine g _ (ly_sI l1) (cg_sI c1) (fun a k ha => ?_)
    have hb := isR_lt ha
    show (if a = 55 ∧ k = 40 then _ else gI Y1 a k) = _
    rw [e40, r1 a k ha, ta_at]
    by_cases z1 : a = 87 ∧ i0 ≤ k ∧ k + 1 < N 8
    · rw [if_neg (by omega), if_pos z1, if_pos ⟨Or.inr z1.1, z1.2⟩, z1.1]
    · by_cases z2 : a = 55 ∧ k = 40
      · rw [if_pos z2, if_neg (show ¬ ((a = 25 ∨ a = 87) ∧ i0 ≤ k ∧ k + 1 < N 8) by omega), if_neg (show ¬ (a = 23 ∧ k = 3) by omega), if_neg (show ¬ (a = 86 ∧ k = s) by omega), if_pos (Or.inr z2)]
        unfold pn
        rw [if_pos hi0, nI_1', pk_sub (by omega)]
      · rw [if_neg z2, if_neg z1, if_neg (show ¬ ((a = 25 ∨ a = 87) ∧ i0 ≤ k ∧ k + 1 < N 8) by omega), if_neg (show ¬ (a = 23 ∧ k = 3) by omega)]
        by_cases z3 : a = 86 ∧ k = s
        · rw [if_pos z3, if_pos z3]
        · rw [if_neg z3, if_neg z3, if_neg (show ¬ ((a = 23 ∧ k = 4) ∨ (a = 55 ∧ k = 40)) by omega)]
  | succ d ih =>
    intro j Y1 e hj l1 c1 r1
    have e40 : gI Y1 55 40 = nI (N 8) := by rw [r1 55 40 rfl, if_neg (by omega), if_neg (by omega), k2]
    have e87 : gI Y1 87 j = gI X 87 j := by rw [r1 87 j rfl, if_neg (by omega), if_neg (by omega)]
    have ej : nI j - 1 = nI (j - 1) := by rw [nI_1', pk_sub (by omega)]
    refine b_mo_change_53 l1 ⟨fun z => absurd z (by rw [e40]; exact nI_nge (by omega) (by omega)), fun _ => ⟨vin (by omega) (by omega), by rw [ej]; exact vin (by omega) (by omega), ?_⟩⟩
    rw [ej, nI_s, nI_c (k := j - 1) (by omega), nI_c (k := j) (by omega), e87]
    refine ih (j + 1) _ (by omega) (by omega) (ly_sI l1) (cg_sI c1) (fun a k ha => ?_)
    show (if a = 87 ∧ k = j - 1 then _ else gI Y1 a k) = _
    by_cases z1 : a = 87 ∧ k = j - 1
    · rw [if_pos z1, if_pos (by omega), z1.2, show j - 1 + 1 = j by omega]
    · rw [if_neg z1, r1 a k ha]
      by_cases z2 : a = 87 ∧ i0 ≤ k ∧ k + 1 < j
      · rw [if_pos z2, if_pos (by omega)]
      · rw [if_neg z2, if_neg (show ¬ (a = 87 ∧ i0 ≤ k ∧ k + 1 < j + 1) by omega)]
theorem s_place (h : Inv N S X) (hX : Lay S Y) (r40 : gI Y 55 40 = gI X 55 40) (r87 : ∀ k, gI Y 87 k = gI X 87 k) {s i0 : Nat} (g : At8 N X s i0) : Ev E m_mo_placeInPlan 0 [(0, .ref 55), (1, .int (nI s))] [] Y (0, 0) (gp_q (some (.int (if i0 < N 8 then nI i0 else -1))) Y) := by
  obtain ⟨⟨k1, k2, k3⟩, q1, q2⟩ := h.pln
  refine b_mo_placeInPlan_0 hX ?_
  by_cases z : i0 < N 8
  · rw [if_pos z]
    refine dn (P := fun k => Ev E m_mo_placeInPlan 2 [(0, .ref 55), (1, .int (nI s)), (2, .int (nI k))] [] Y (0, 0) (gp_q (some (.int (nI i0))) Y)) (n := i0) ?_ ?_
    · refine b_mo_placeInPlan_2 hX ⟨fun z => absurd z (by rw [r40, k2]; exact nI_nge (by omega) (by omega)), fun _ => ⟨vin (by omega) (by omega), ?_⟩⟩
      rw [nI_c (by omega), r87, g i0 z]
      exact ⟨fun c => absurd rfl c, fun _ => ⟨rfl, rfl⟩⟩
    · intro k hk ih
      refine b_mo_placeInPlan_2 hX ⟨fun z => absurd z (by rw [r40, k2]; exact nI_nge (show k < N 8 by omega) (by omega)), fun _ => ⟨vin (by omega) (by omega), ?_⟩⟩
      rw [nI_s, nI_c (by omega), r87, g k (by omega)]
      exact ⟨fun _ => ih, fun c => by omega⟩
  · rw [if_neg z]
    refine dn (P := fun k => Ev E m_mo_placeInPlan 2 [(0, .ref 55), (1, .int (nI s)), (2, .int (nI k))] [] Y (0, 0) (gp_q (some (.int (-1))) Y)) (n := N 8) ?_ ?_
    · exact b_mo_placeInPlan_2 hX ⟨fun _ => ⟨rfl, rfl⟩, fun z => absurd (by rw [r40, k2]; exact Int32.le_refl _) z⟩
    · intro k hk ih
      refine b_mo_placeInPlan_2 hX ⟨fun z => absurd z (by rw [r40, k2]; exact nI_nge hk (by omega)), fun _ => ⟨vin (by omega) (by omega), ?_⟩⟩
      rw [nI_s, nI_c (by omega), r87, g k hk]
      exact ⟨fun _ => ih, fun c => by omega⟩
theorem ta_inv (h : Inv N S X) {s i0 : Nat} (hs : s < N 7) (g : At8 N X s i0) : Inv (tN N i0) S (TA N X s i0) := by
  obtain ⟨⟨k1, k2, k3⟩, q1, q2⟩ := h.pln
  obtain ⟨⟨s1, s2, s3⟩, s4, s5, s6, s7, s8, s9, s10, s11⟩ := h.sec
  have r86 : ∀ k, gI (TA N X s i0) 86 k = if k = s then 1 else gI X 86 k := fun k => by
    rw [ta_at, if_neg (by omega), if_neg (by omega)]
    by_cases z : k = s
    · rw [if_pos ⟨rfl, z⟩, if_pos z]
    · rw [if_neg (by omega), if_neg z, if_neg (by omega)]
  have r87 : ∀ a, a = 25 ∨ a = 87 → ∀ k, gI (TA N X s i0) a k = if i0 ≤ k ∧ k + 1 < N 8 then gI X a (k + 1) else gI X a k := fun a ha k => by
    rw [ta_at]
    by_cases z : i0 ≤ k ∧ k + 1 < N 8
    · rw [if_pos ⟨ha, z⟩, if_pos z]
    · rw [if_neg (fun y => z y.2), if_neg z, if_neg (by omega), if_neg (by omega), if_neg (by omega)]
  have lo : ∀ a k, a ≠ 25 → a ≠ 87 → a ≠ 86 → ¬ (a = 23 ∧ k = 3) → ¬ (a = 23 ∧ k = 4) → ¬ (a = 55 ∧ k = 40) → gI (TA N X s i0) a k = gI X a k := fun a k z1 z2 z3 z4 z5 z6 => by
    rw [ta_at, if_neg (by omega), if_neg z4, if_neg (by omega), if_neg (by omega)]
  have e3 : gI (TA N X s i0) 23 3 = caV X s := by rw [ta_at, if_neg (by omega), if_pos ⟨rfl, rfl⟩]
  have lw : low (N 7) (caV X s) := low_or ((low_lt (by omega)).mpr ⟨s9, s10⟩) (low_shl hs (by omega))
  have lq := (low_lt (by omega)).mp lw
  have pl : pn N i0 ≤ N 8 := by unfold pn; split <;> omega
  refine iw_y [(25, 0), (87, 0), (23, 3), (86, 0), (23, 4), (55, 40)] false (tN N i0) h (ly_wI h.lay) (fun a k ho _ => lo a k (off_ne ho (25, 0)) (off_ne ho (87, 0)) (off_ne ho (86, 0)) (off_sl ho (23, 3)) (off_sl ho (23, 4)) (off_sl ho (55, 40))) (fun hx => ⟨hx.1, (hx.2.1 rfl), (hx.2.2.1 rfl), (hx.2.2.2.1 rfl), (hx.2.2.2.2.1 rfl), (hx.2.2.2.2.2.1 rfl), (hx.2.2.2.2.2.2.1 rfl), (hx.2.2.2.2.2.2.2.1 rfl), (hx.2.2.2.2.2.2.2.2.1 rfl), (hx.2.2.2.2.2.2.2.2.2.1 rfl), ?_, ?_, (hx.2.2.2.2.2.2.2.2.2.2.2.2.1 rfl), (hx.2.2.2.2.2.2.2.2.2.2.2.2.2.1 rfl), (hx.2.2.2.2.2.2.2.2.2.2.2.2.2.2.1 rfl), (hx.2.2.2.2.2.2.2.2.2.2.2.2.2.2.2.1 rfl), (hx.2.2.2.2.2.2.2.2.2.2.2.2.2.2.2.2.1 rfl), (hx.2.2.2.2.2.2.2.2.2.2.2.2.2.2.2.2.2.1 rfl), (hx.2.2.2.2.2.2.2.2.2.2.2.2.2.2.2.2.2.2.1 rfl), (hx.2.2.2.2.2.2.2.2.2.2.2.2.2.2.2.2.2.2.2.1 rfl), (hx.2.2.2.2.2.2.2.2.2.2.2.2.2.2.2.2.2.2.2.2.1 rfl), (hx.2.2.2.2.2.2.2.2.2.2.2.2.2.2.2.2.2.2.2.2.2 rfl)⟩)
  · refine ⟨⟨(lo 23 1 (by decide) (by decide) (by decide) (by decide) (by decide) (by decide)).trans s1, (lo 55 37 (by decide) (by decide) (by decide) (by decide) (by decide) (by decide)).trans s2, s3⟩, fun i => ?_, fun i hi => ?_, fun i j hi hj hn => ?_, fun i => ?_, fun i hi => ?_, ?_, ?_, fun i hi => ?_⟩
    · rw [lo 24 i (by decide) (by decide) (by decide) (by omega) (by omega) (by omega), lo 85 i (by decide) (by decide) (by decide) (by omega) (by omega) (by omega)]; exact s4 i
    · rw [lo 85 i (by decide) (by decide) (by decide) (by omega) (by omega) (by omega)]; exact s5 i hi
    · rw [lo 85 i (by decide) (by decide) (by decide) (by omega) (by omega) (by omega), lo 85 j (by decide) (by decide) (by decide) (by omega) (by omega) (by omega)]; exact s6 i j hi hj hn
    · rw [r86]; split
      · exact Or.inr rfl
      · exact s7 i
    · have hi' : i < N 7 := hi
      rw [e3, r86, gb_bt _ (by omega)]
      unfold caV
      rw [b_or, bt_shl (by omega) (by omega), ← gb_bt _ (by omega), s8 i hi']
      by_cases z : i = s
      · rw [if_pos z, decide_eq_true z, Bool.or_true]; rfl
      · rw [if_neg z, decide_eq_false z, Bool.or_false]
    · rw [e3]; exact lq.1
    · rw [e3]; exact lq.2
    · have hi' : N 7 ≤ i := hi
      rw [r86, if_neg (by omega)]; exact s11 i hi'
  · have e8 : tN N i0 8 = pn N i0 := rfl
    have hp : ∀ i, i < pn N i0 → ∃ i', i' < N 8 ∧ i' ≠ i0 ∧ gI (TA N X s i0) 87 i = gI X 87 i' ∧ gI (TA N X s i0) 25 i = gI X 25 i' ∧ i' = (if i0 ≤ i then i + 1 else i) := fun i hi => by
      unfold pn at hi
      rw [r87 87 (Or.inr rfl), r87 25 (Or.inl rfl)]
      by_cases z : i0 < N 8
      · rw [if_pos z] at hi
        by_cases y : i0 ≤ i
        · rw [if_pos (by omega), if_pos (by omega), if_pos y]; exact ⟨i + 1, by omega, by omega, rfl, rfl, rfl⟩
        · rw [if_neg (by omega), if_neg (by omega), if_neg y]; exact ⟨i, by omega, by omega, rfl, rfl, rfl⟩
      · rw [if_neg z] at hi
        rw [if_neg (by omega), if_neg (by omega), if_neg (by omega)]; exact ⟨i, by omega, by omega, rfl, rfl, rfl⟩
    refine ⟨⟨?_, ?_, by rw [e8]; omega⟩, fun i hi => ?_, fun i j hi hj ee => ?_⟩
    · rw [ta_at, if_neg (by omega), if_neg (by omega), if_neg (by omega), if_pos (Or.inl ⟨rfl, rfl⟩)]; rfl
    · rw [ta_at, if_neg (by omega), if_neg (by omega), if_neg (by omega), if_pos (Or.inr ⟨rfl, rfl⟩)]; rfl
    · obtain ⟨i', a1, a2, a3, a4, -⟩ := hp i hi
      obtain ⟨b1, t, b2, b3, b4⟩ := q1 i' a1
      refine ⟨by rw [a3, a4]; exact b1, t, b2, a3.trans b3, ?_⟩
      rw [r86, if_neg (fun z => a2 ((g i' a1).mp (by rw [b3, z])))]; exact b4
    · obtain ⟨i', a1, a2, a3, a4, a5⟩ := hp i hi
      obtain ⟨j', c1, c2, c3, c4, c5⟩ := hp j hj
      rw [a3, c3] at ee
      have := q2 i' j' a1 c1 ee
      rw [a5, c5] at this
      split at this <;> split at this <;> omega
/-- works at a set are closed -/
def clX (X : gp_H) (w : Nat) : gp_H := gp_sI (gp_sI X 11 w 0) 63 w 0
def clL (st : Int32) : Nat → Nat → gp_H → gp_H
  | 0, _, X => X
  | d + 1, w, X => if gb st (gI X 60 w) = true then clL st d (w + 1) (clX X w) else clL st d (w + 1) X
theorem clX_inv (h : Inv N S X) {w : Nat} (hw : w < N 2) : Inv N S (clX X w) := by
  obtain ⟨a, m, c, p1, p2, p3, p4, p5, p6, p7⟩ := h.wrk.2.2.1 w hw
  unfold clX
  have hx := X_sI (a := 63) (k := w) (v := 0) (X_sI (a := 11) (k := w) (v := 0) (X_0 h))
  exact ⟨hx.1, (hx.2.1 rfl), I_wrk_b (w := w) (c := gI X 62 w) (b := 0) (cc := c) h.wrk rfl rfl (fun a ha i => by rcases ha with e | e | e | e <;> subst e <;> rfl) p7 p6 (Or.inl rfl) (fun i => by
    show gI X 10 i = _
    by_cases y : i = w
    · rw [if_pos y, y]; exact (h.wrk.2.1 w).2.2.1
    · rw [if_neg y]) (fun i => by
    show gI X 62 i = _
    by_cases y : i = w
    · rw [if_pos y, y]
    · rw [if_neg y]) (fun i => by simp only [gI_sI, Nat.reduceEqDiff, false_and, true_and, and_false, and_true, ite_false, ite_true, ↓reduceIte, reduceCtorEq]) (fun i => by simp only [gI_sI, Nat.reduceEqDiff, false_and, true_and, and_false, and_true, ite_false, ite_true, ↓reduceIte, reduceCtorEq]), (hx.2.2.2.1 rfl), (hx.2.2.2.2.1 rfl), (hx.2.2.2.2.2.1 rfl), (hx.2.2.2.2.2.2.1 rfl), (hx.2.2.2.2.2.2.2.1 rfl), (hx.2.2.2.2.2.2.2.2.1 rfl), (hx.2.2.2.2.2.2.2.2.2.1 rfl), (hx.2.2.2.2.2.2.2.2.2.2.1 rfl), (hx.2.2.2.2.2.2.2.2.2.2.2.1 rfl), (hx.2.2.2.2.2.2.2.2.2.2.2.2.1 rfl), (hx.2.2.2.2.2.2.2.2.2.2.2.2.2.1 rfl), (hx.2.2.2.2.2.2.2.2.2.2.2.2.2.2.1 rfl), (hx.2.2.2.2.2.2.2.2.2.2.2.2.2.2.2.1 rfl), (hx.2.2.2.2.2.2.2.2.2.2.2.2.2.2.2.2.1 rfl), (hx.2.2.2.2.2.2.2.2.2.2.2.2.2.2.2.2.2.1 rfl), (hx.2.2.2.2.2.2.2.2.2.2.2.2.2.2.2.2.2.2.1 rfl), (hx.2.2.2.2.2.2.2.2.2.2.2.2.2.2.2.2.2.2.2.1 rfl), (hx.2.2.2.2.2.2.2.2.2.2.2.2.2.2.2.2.2.2.2.2.1 rfl), (hx.2.2.2.2.2.2.2.2.2.2.2.2.2.2.2.2.2.2.2.2.2 rfl)⟩
theorem cl_inv {st : Int32} : ∀ (d w : Nat) (X : gp_H), d + w = N 2 → Inv N S X → Inv N S (clL st d w X)
  | 0, _, _, _, h => h
  | d + 1, w, X, e, h => by
    unfold clL
    split
    · exact cl_inv d (w + 1) _ (by omega) (clX_inv h (by omega))
    · exact cl_inv d (w + 1) X (by omega) h
theorem cl_ne {st : Int32} {a i : Nat} (h1 : a ≠ 11) (h2 : a ≠ 63) : ∀ (d w : Nat) (X : gp_H), gI (clL st d w X) a i = gI X a i
  | 0, _, _ => rfl
  | d + 1, w, X => by
    unfold clL
    split
    · rw [cl_ne h1 h2 d]; unfold clX; simp only [gI_sI]; rw [if_neg (by omega), if_neg (by omega)]
    · exact cl_ne h1 h2 d (w + 1) X
theorem cl_c {st : Int32} : ∀ (d w : Nat) (X Y : gp_H), d + w = N 2 → Inv N S X → Lay S Y → Cf X Y → Ev E m_ne_closeWorksAt 2 [(0, .ref 1), (1, .int st), (2, .int (nI w))] [] Y (0, 0) (fun r Y' => r = none ∧ Lay S Y' ∧ Rf Y Y' ∧ Cf (clL st d w X) Y')
  | 0, w, X, Y, e, h, lY, c => by
    obtain rfl : w = N 2 := by omega
    exact b_ne_closeWorksAt_2 lY ⟨fun _ => ⟨rfl, lY, rf_0 Y, c⟩, fun z => absurd (by rw [c 1 9 rfl, h.wrk.1.1]; exact Int32.le_refl _) z⟩
  | d + 1, w, X, Y, e, h, lY, c => by
    have k3 := h.wrk.1.2.2
    refine b_ne_closeWorksAt_2 lY ⟨fun z => absurd z (by rw [c 1 9 rfl, h.wrk.1.1]; exact nI_nge (show w < N 2 by omega) (by omega)), fun _ => ⟨vin (by omega) (by omega), ?_⟩⟩
    rw [nI_c (k := w) (by omega), c 8 _ rfl, (h.wrk.2.1 w).1, nI_s]
    refine ⟨fun z => ?_, fun z => ?_⟩
    · have : clL st (d + 1) w X = clL st d (w + 1) X := if_neg (fun y => bnf z y)
      rw [this]
      exact cl_c d (w + 1) X Y (by omega) h lY c
    · have : clL st (d + 1) w X = clL st d (w + 1) (clX X w) := if_pos z
      rw [this]
      exact ev_post (fun r Y' ⟨x1, x2, x3, x4⟩ => ⟨x1, x2, r_tr (rg_sI (rf_0 Y)) x3, x4⟩) (cl_c d (w + 1) _ _ (by omega) (clX_inv h (by omega)) (ly_sI lY) (cl_ (cb c)))
theorem cl_r {s : Nat} (hs : s < 7) {x2 : Int32} {Q : Option Value → gp_H → Prop} : ∀ (d w : Nat) (X Y : gp_H), d + w = N 2 → Inv N S X → Lay S Y → Rf X Y → (∀ Y', Lay S Y' → Cf Y Y' → Rf (clL (gI X 85 s) d w X) Y' → Ev E m_mo_change 93 [(0, .ref 55), (1, .int (nI s)), (2, .int x2), (3, .int (nI (N 2)))] [] Y' (0, 0) Q) → Ev E m_mo_change 93 [(0, .ref 55), (1, .int (nI s)), (2, .int x2), (3, .int (nI w))] [] Y (0, 0) Q
  | 0, w, X, Y, e, h, lY, c, g => by
    obtain rfl : w = N 2 := by omega
    exact g Y lY (cf_0 Y) c
  | d + 1, w, X, Y, e, h, lY, c, g => by
    have k3 := h.wrk.1.2.2
    refine b_mo_change_93 lY ⟨fun z => absurd z (by rw [c 55 6 rfl, h.wrk.1.2.1]; exact nI_nge (show w < N 2 by omega) (by omega)), fun _ => ⟨vin (by omega) (by omega), ?_⟩⟩
    rw [nI_c (k := w) (by omega), c 63 _ rfl, c 60 _ rfl, nI_c (k := s) (by omega), c 85 _ rfl, nI_s]
    have no : gb (gI X 85 s) (gI X 60 w) = false → ∀ v, v = gI X 63 w → Ev E m_mo_change 93 [(0, .ref 55), (1, .int (nI s)), (2, .int x2), (3, .int (nI (w + 1)))] [] (gp_sI Y 63 w v) (0, 0) Q := fun z v ev => by
      have : clL (gI X 85 s) (d + 1) w X = clL (gI X 85 s) d (w + 1) X := if_neg (fun y => bnf z y)
      rw [this] at g
      exact cl_r hs d (w + 1) X _ (by omega) h (ly_sI lY) (rf_same c (fun _ => ev)) (fun Y' l' c' r' => g Y' l' (c_tr (cg_sI (cf_0 Y)) c') r')
    have yes : gb (gI X 85 s) (gI X 60 w) = true → Ev E m_mo_change 93 [(0, .ref 55), (1, .int (nI s)), (2, .int x2), (3, .int (nI (w + 1)))] [] (gp_sI Y 63 w 0) (0, 0) Q := fun z => by
      have : clL (gI X 85 s) (d + 1) w X = clL (gI X 85 s) d (w + 1) (clX X w) := if_pos z
      rw [this] at g
      exact cl_r hs d (w + 1) (clX X w) _ (by omega) (clX_inv h (by omega)) (ly_sI lY) (rb (rl_ c)) (fun Y' l' c' r' => g Y' l' (c_tr (cg_sI (cf_0 Y)) c') r')
    refine ⟨fun z => ?_, fun z => ⟨vin hs (by omega), yes, fun z2 => no z2 1 ((h.wrk.2.2.2 w).resolve_left z).symm⟩⟩
    cases z2 : gb (gI X 85 s) (gI X 60 w) with
    | false => exact no z2 0 z.symm
    | true => exact yes z2
end CHG
