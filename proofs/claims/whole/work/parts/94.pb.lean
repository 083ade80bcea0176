theorem fb_holes : ∀ (m n : Nat) (f : Nat → Nat), (∀ i, i < n → f i < m) → (∀ i j, i < j → j < n → f i ≠ f j) → n ≤ m := by
  intro m
  induction m with
  | zero =>
    intro n f h1 _
    rcases Nat.eq_zero_or_pos n with h | h
    · omega
    · exact absurd (h1 0 h) (Nat.not_lt_zero _)
  | succ m ih =>
    intro n f h1 h2
    by_cases hx : ∃ i, i < n ∧ f i = m
    · obtain ⟨a, ha, hfa⟩ := hx
      have hg := ih (n - 1) (fun i => if i < a then f i else f (i + 1)) (by
        intro i hi
        by_cases q : i < a
        · simp only [if_pos q]
          have b1 := h1 i (by omega)
          have b2 := h2 i a q ha
          omega
        · simp only [if_neg q]
          have b1 := h1 (i + 1) (by omega)
          have b2 := h2 a (i + 1) (by omega) (by omega)
          omega) (by
        intro i j hij hj
        by_cases q : i < a
        · by_cases r : j < a
          · simp only [if_pos q, if_pos r]
            exact h2 i j hij (by omega)
          · simp only [if_pos q, if_neg r]
            exact h2 i (j + 1) (by omega) (by omega)
        · have r : ¬ j < a := by omega
          simp only [if_neg q, if_neg r]
          exact h2 (i + 1) (j + 1) (by omega) (by omega))
      omega
    · have hg := ih n f (fun i hi => by
        have b1 := h1 i hi
        have b2 : f i ≠ m := fun e => hx ⟨i, hi, e⟩
        omega) h2
      omega
section PLAN
variable {E : gp_E} {N : Nat → Nat} {S : gp_S} {X Y : gp_H}
theorem pl_no (h : Inv N S X) {x : Int32} (hx : ∀ i, i < N 8 → ¬ gI X 87 i = x) : Ev E m_se_isPlanned 0 [(0, .ref 23), (1, .int x)] [] X (0, 0) (gp_q (some (.int 0)) X) := by
  obtain ⟨⟨k1, k2, k3⟩, q1, q2⟩ := h.pln
  have hX := h.lay
  refine b_se_isPlanned_0 hX ?_
  refine dn (P := fun k => Ev E m_se_isPlanned 2 [(0, .ref 23), (1, .int x), (2, .int (nI k))] [] X (0, 0) (gp_q (some (.int 0)) X)) (n := N 8) ?_ ?_
  · exact b_se_isPlanned_2 hX ⟨fun _ => ⟨rfl, rfl⟩, fun z => absurd (by rw [k1]; exact Int32.le_refl _) z⟩
  · intro k hk ih
    refine b_se_isPlanned_2 hX ⟨fun z => absurd z (by rw [k1]; exact nI_nge hk (by omega)), fun _ => ⟨vin (by omega) (by omega), ?_⟩⟩
    rw [nI_s, nI_c (by omega), (q1 k hk).1]
    exact ⟨fun _ => ih, fun c => absurd c (hx k hk)⟩
theorem pl_yes (h : Inv N S X) {x : Int32} {i : Nat} (hi : i < N 8) (hx : gI X 87 i = x) : Ev E m_se_isPlanned 0 [(0, .ref 23), (1, .int x)] [] X (0, 0) (gp_q (some (.int 1)) X) := by
  obtain ⟨⟨k1, k2, k3⟩, q1, q2⟩ := h.pln
  have hX := h.lay
  refine b_se_isPlanned_0 hX ?_
  refine dn (P := fun k => Ev E m_se_isPlanned 2 [(0, .ref 23), (1, .int x), (2, .int (nI k))] [] X (0, 0) (gp_q (some (.int 1)) X)) (n := i) ?_ ?_
  · refine b_se_isPlanned_2 hX ⟨fun z => absurd z (by rw [k1]; exact nI_nge hi (by omega)), fun _ => ⟨vin (by omega) (by omega), ?_⟩⟩
    rw [nI_c (by omega), (q1 i hi).1]
    exact ⟨fun c => absurd hx c, fun _ => ⟨rfl, rfl⟩⟩
  · intro k hk ih
    refine b_se_isPlanned_2 hX ⟨fun z => absurd z (by rw [k1]; exact nI_nge (show k < N 8 by omega) (by omega)), fun _ => ⟨vin (by omega) (by omega), ?_⟩⟩
    rw [nI_s, nI_c (by omega)]
    exact ⟨fun _ => ih, fun _ => ⟨rfl, rfl⟩⟩
theorem pp_no (h : Inv N S X) (hX : Lay S Y) (g : Rf X Y) {x : Int32} (hx : ∀ i, i < N 8 → ¬ gI X 87 i = x) : Ev E m_mo_placeInPlan 0 [(0, .ref 55), (1, .int x)] [] Y (0, 0) (gp_q (some (.int (-1))) Y) := by
  obtain ⟨⟨k1, k2, k3⟩, q1, q2⟩ := h.pln
  refine b_mo_placeInPlan_0 hX ?_
  refine dn (P := fun k => Ev E m_mo_placeInPlan 2 [(0, .ref 55), (1, .int x), (2, .int (nI k))] [] Y (0, 0) (gp_q (some (.int (-1))) Y)) (n := N 8) ?_ ?_
  · exact b_mo_placeInPlan_2 hX ⟨fun _ => ⟨rfl, rfl⟩, fun z => absurd (by rw [g 55 40 rfl, k2]; exact Int32.le_refl _) z⟩
  · intro k hk ih
    refine b_mo_placeInPlan_2 hX ⟨fun z => absurd z (by rw [g 55 40 rfl, k2]; exact nI_nge hk (by omega)), fun _ => ⟨vin (by omega) (by omega), ?_⟩⟩
    rw [nI_s, nI_c (by omega), g 87 _ rfl]
    exact ⟨fun _ => ih, fun c => absurd c (hx k hk)⟩
theorem pp_yes (h : Inv N S X) (hX : Lay S Y) (g : Rf X Y) {x : Int32} {i : Nat} (hi : i < N 8) (hx : gI X 87 i = x) : Ev E m_mo_placeInPlan 0 [(0, .ref 55), (1, .int x)] [] Y (0, 0) (gp_q (some (.int (nI i))) Y) := by
  obtain ⟨⟨k1, k2, k3⟩, q1, q2⟩ := h.pln
  refine b_mo_placeInPlan_0 hX ?_
  refine dn (P := fun k => Ev E m_mo_placeInPlan 2 [(0, .ref 55), (1, .int x), (2, .int (nI k))] [] Y (0, 0) (gp_q (some (.int (nI i))) Y)) (n := i) ?_ ?_
  · refine b_mo_placeInPlan_2 hX ⟨fun z => absurd z (by rw [g 55 40 rfl, k2]; exact nI_nge hi (by omega)), fun _ => ⟨vin (by omega) (by omega), ?_⟩⟩
    rw [nI_c (by omega), g 87 _ rfl]
    exact ⟨fun c => absurd hx c, fun _ => ⟨rfl, rfl⟩⟩
  · intro k hk ih
    refine b_mo_placeInPlan_2 hX ⟨fun z => absurd z (by rw [g 55 40 rfl, k2]; exact nI_nge (show k < N 8 by omega) (by omega)), fun _ => ⟨vin (by omega) (by omega), ?_⟩⟩
    rw [nI_s, nI_c (by omega), g 87 _ rfl]
    exact ⟨fun _ => ih, fun c => by have := q2 k i (by omega) hi (c.trans hx.symm); omega⟩
/-- the plan has room for each sector but once -/
theorem pl_room (h : Inv N S X) {s : Nat} (hs : s < N 7) (hx : ∀ i, i < N 8 → ¬ gI X 87 i = nI s) : N 8 < 7 := by
  obtain ⟨⟨k1, k2, k3⟩, q1, q2⟩ := h.pln
  have h7 := h.sec.1.2.2
  refine Nat.lt_of_le_of_ne k3 (fun e => ?_)
  have := fb_holes 7 8 (fun i => if i < 7 then Int32.toNatClampNeg (gI X 87 i) else s) (fun i hi => by
    show (if _ then _ else _) < _
    split
    · obtain ⟨-, t, ht, et, -⟩ := q1 i (by omega)
      rw [et, nI_c (by omega)]; omega
    · omega) (fun i j hij hj q => by
    have q' : (if i < 7 then Int32.toNatClampNeg (gI X 87 i) else s) = (if j < 7 then Int32.toNatClampNeg (gI X 87 j) else s) := q
    have val : ∀ i, i < 7 → gI X 87 i = nI (Int32.toNatClampNeg (gI X 87 i)) := fun i hi => by
      obtain ⟨-, t, ht, et, -⟩ := q1 i (by omega)
      rw [et, nI_c (by omega)]
    rw [if_pos (by omega)] at q'
    split at q'
    · rename_i z2
      have := q2 i j (by omega) (by omega) (by rw [val i (by omega), val j z2, q'])
      omega
    · exact absurd (by rw [val i (by omega), q']) (hx i (by omega)))
  omega
end PLAN
theorem rg_sI {X Y : gp_H} {a k : Nat} {v : Int32} (g : Rf X Y) (ha : isR a = false := by rfl) : Rf X (gp_sI Y a k v) := fun i j hi => by
  show (if i = a ∧ j = k then v else gI Y i j) = _
  rw [if_neg (fun q => by rw [q.1, ha] at hi; exact absurd hi (by decide)), g i j hi]
theorem cg_sI {X Y : gp_H} {a k : Nat} {v : Int32} (g : Cf X Y) (ha : (Nat.blt a 55 || Nat.ble 114 a) = false := by rfl) : Cf X (gp_sI Y a k v) := fun i j hi => by
  show (if i = a ∧ j = k then v else gI Y i j) = _
  rw [if_neg (fun q => by rw [q.1, ha] at hi; exact absurd hi (by decide)), g i j hi]
theorem I_pln_add {N N' : Nat → Nat} {X X' : gp_H} {s : Nat} (h : I_pln N X) (h7 : N' 7 = N 7) (h8 : N' 8 = N 8 + 1) (hl : N 8 < 7) (hs : s < N 7) (h86 : gI X 86 s = 0) (hx : ∀ i, i < N 8 → ¬ gI X 87 i = nI s) (s1 : gI X' 23 4 = nI (N 8 + 1)) (s2 : gI X' 55 40 = nI (N 8 + 1)) (r25 : ∀ i, gI X' 25 i = if i = N 8 then nI s else gI X 25 i) (r87 : ∀ i, gI X' 87 i = if i = N 8 then nI s else gI X 87 i) (r86 : ∀ i, gI X' 86 i = gI X 86 i) : I_pln N' X' := by
  obtain ⟨⟨w1, w2, w3⟩, q1, q2⟩ := h
  unfold I_pln
  rw [h7, h8]
  refine ⟨⟨s1, s2, hl⟩, fun i hi => ?_, fun i j hi hj e => ?_⟩
  · by_cases z : i = N 8
    · subst z
      exact ⟨(row_at r25).trans (row_at r87).symm, s, hs, row_at r87, (r86 s).trans h86⟩
    · rw [row_ne r25 z, row_ne r87 z]
      obtain ⟨a, t, b, c, d⟩ := q1 i (by omega)
      exact ⟨a, t, b, c, (r86 t).trans d⟩
  · by_cases z : i = N 8
    · by_cases z2 : j = N 8
      · omega
      · rw [z, row_at r87, row_ne r87 z2] at e
        exact absurd e.symm (hx j (by omega))
    · by_cases z2 : j = N 8
      · rw [z2, row_at r87, row_ne r87 z] at e
        exact absurd e (hx i (by omega))
      · rw [row_ne r87 z, row_ne r87 z2] at e
        exact q2 i j (by omega) (by omega) e
theorem p_plan {E : gp_E} {N : Nat → Nat} {S : gp_S} {X : gp_H} (h : Inv N S X) (x1 : Int32) : Ev E m_ga_plan 0 [(0, .ref 0), (1, .int x1)] [] X (0, 0) (gp_two E m_mo_plan [(0, .ref 55), (1, .int x1)]) := by
  have hL := h.lay
  obtain ⟨⟨k1, k2, k3⟩, q1, q2⟩ := h.pln
  obtain ⟨⟨s1, s2, s3⟩, t1, t2, t3, t4, t5, t6, t7, t8⟩ := h.sec
  refine b_ga_plan_0 hL ?_
  rw [s1]
  have R := fun {Y : gp_H} (lY : Lay S Y) {Q} => b_mo_plan_0 (E := E) (x1 := x1) (Q := Q) lY
  refine ⟨fun c => ?_, fun c => ⟨_, S, rfl, hL, R hL (by rw [s2]; exact ⟨fun z => bnf c z, fun _ => ⟨rfl, N, h⟩⟩)⟩⟩
  obtain ⟨s, hs, rfl⟩ := iw_nI (by omega) c
  have vi : vp_in (nI s) 7 := vin (by omega) (by omega)
  rw [t5 s hs]
  refine ⟨fun c1 => ?_, fun c1 => ?_⟩
  · have c1' : ¬ gI X 86 s = 0 := by simpa using c1
    refine ⟨_, S, rfl, hL, R hL ?_⟩
    rw [s2, nI_c (by omega)]
    exact ⟨fun _ => ⟨vi, fun _ => ⟨rfl, N, h⟩, fun z => absurd z c1'⟩, fun z => bne c z⟩
  · have c1' : gI X 86 s = 0 := by simpa using c1
    by_cases hp : ∃ i, i < N 8 ∧ gI X 87 i = nI s
    · obtain ⟨i, hi, ei⟩ := hp
      refine wh_i (pl_yes h hi ei) hL ⟨fun z => absurd z (by decide), fun _ => ⟨_, S, rfl, hL, R hL ?_⟩⟩
      rw [s2, nI_c (by omega)]
      refine ⟨fun _ => ⟨vi, fun z => absurd c1' z, fun _ => wh_i (pp_yes h hL (rf_0 X) hi ei) hL ⟨fun z => ?_, fun _ => ⟨rfl, N, h⟩⟩⟩, fun z => bne c z⟩
      have := congrArg Int32.toInt z
      rw [nI_toInt (by omega)] at this
      exact absurd this (by rw [show (-1 : Int32).toInt = -1 from by decide]; omega)
    · have hp' : ∀ i, i < N 8 → ¬ gI X 87 i = nI s := fun i hi z => hp ⟨i, hi, z⟩
      have room := pl_room h hs hp'
      refine wh_i (pl_no h hp') hL ⟨fun _ => wh_i (b_se_addToPlan_0 hL ⟨fun z => absurd z (by rw [k1]; exact nI_nge (b := 7) room (by omega)), fun _ => ⟨by rw [k1]; exact vin room (by omega), rfl, rfl⟩⟩) (ly_sI (ly_sI hL)) ?_, fun z => absurd rfl z⟩
      rw [k1, nI_c (by omega)]
      have gY : Rf X (gp_sI (gp_sI X 23 4 (nI (N 8) + 1)) 25 (N 8) (nI s)) := rg_sI (rg_sI (rf_0 X))
      refine ⟨_, S, rfl, ly_sI (ly_sI hL), R (ly_sI (ly_sI hL)) ?_⟩
      rw [gY 55 37 rfl, s2, nI_c (by omega), gY 86 _ rfl]
      refine ⟨fun _ => ⟨vi, fun z => absurd c1' z, fun _ => wh_i (pp_no h (ly_sI (ly_sI hL)) gY hp') (ly_sI (ly_sI hL)) ⟨fun _ => ?_, fun z => absurd rfl z⟩⟩, fun z => bne c z⟩
      rw [gY 55 40 rfl, k2, nI_c (by omega)]
      refine ⟨vin room (by omega), rfl, ?_⟩
      exact iv_get (fun i => if i = 8 then N 8 + 1 else N i) (X_sI (X_sI (X_sI (X_sI (X_0 h))))) (fun hx => ⟨hx.1, (hx.2.1 rfl), (hx.2.2.1 rfl), (hx.2.2.2.1 rfl), (hx.2.2.2.2.1 rfl), (hx.2.2.2.2.2.1 rfl), (hx.2.2.2.2.2.2.1 rfl), (hx.2.2.2.2.2.2.2.1 rfl), (hx.2.2.2.2.2.2.2.2.1 rfl), (hx.2.2.2.2.2.2.2.2.2.1 rfl), (hx.2.2.2.2.2.2.2.2.2.2.1 rfl), I_pln_add h.pln rfl rfl room hs c1' hp' (by simp only [gI_sI, Nat.reduceEqDiff, false_and, true_and, and_false, and_true, ite_false, ite_true, ↓reduceIte, reduceCtorEq, nI_s]) (by simp only [gI_sI, Nat.reduceEqDiff, false_and, true_and, and_false, and_true, ite_false, ite_true, ↓reduceIte, reduceCtorEq, nI_s]) (fun i => by simp only [gI_sI, Nat.reduceEqDiff, false_and, true_and, and_false, and_true, ite_false, ite_true, ↓reduceIte, reduceCtorEq]) (fun i => by simp only [gI_sI, Nat.reduceEqDiff, false_and, true_and, and_false, and_true, ite_false, ite_true, ↓reduceIte, reduceCtorEq]) (fun i => by simp only [gI_sI, Nat.reduceEqDiff, false_and, true_and, and_false, and_true, ite_false, ite_true, ↓reduceIte, reduceCtorEq]), (hx.2.2.2.2.2.2.2.2.2.2.2.2.1 rfl), (hx.2.2.2.2.2.2.2.2.2.2.2.2.2.1 rfl), (hx.2.2.2.2.2.2.2.2.2.2.2.2.2.2.1 rfl), (hx.2.2.2.2.2.2.2.2.2.2.2.2.2.2.2.1 rfl), (hx.2.2.2.2.2.2.2.2.2.2.2.2.2.2.2.2.1 rfl), (hx.2.2.2.2.2.2.2.2.2.2.2.2.2.2.2.2.2.1 rfl), (hx.2.2.2.2.2.2.2.2.2.2.2.2.2.2.2.2.2.2.1 rfl), (hx.2.2.2.2.2.2.2.2.2.2.2.2.2.2.2.2.2.2.2.1 rfl), (hx.2.2.2.2.2.2.2.2.2.2.2.2.2.2.2.2.2.2.2.2.1 rfl), (hx.2.2.2.2.2.2.2.2.2.2.2.2.2.2.2.2.2.2.2.2.2 rfl)⟩)
section SEC
variable {E : gp_E} {N : Nat → Nat} {S : gp_S} {X Y : gp_H}
/-- the knots of some sectors -/
def knF (X : gp_H) (m : Int32) (s : Nat) : Int32 := if gb m (nI s) = true then gI X 85 s else 0
def knS (N : Nat → Nat) (X : gp_H) (m : Int32) : Int32 := orF (knF X m) (N 7)
theorem s_se_knotsOf' (h : Inv N S X) (hX : Lay S Y) (g : Cf X Y) (m : Int32) : Ev E m_se_knotsOf 0 [(0, .ref 23), (1, .int m)] [] Y (0, 0) (gp_q (some (.int (knS N X m))) Y) := by
  obtain ⟨⟨k1, k2, k3⟩, q1, -⟩ := h.sec
  refine b_se_knotsOf_0 hX ?_
  refine dn (P := fun k => Ev E m_se_knotsOf 4 [(0, .ref 23), (1, .int m), (2, .int (orF (knF X m) k)), (3, .int (nI k))] [] Y (0, 0) (gp_q (some (.int (orF (knF X m) (N 7)))) Y)) (n := N 7) ?_ ?_
  · exact b_se_knotsOf_4 hX ⟨fun _ => ⟨rfl, rfl⟩, fun z => absurd (by rw [g 23 1 rfl, k1]; exact Int32.le_refl _) z⟩
  · intro k hk ih
    refine b_se_knotsOf_4 hX ⟨fun z => absurd z (by rw [g 23 1 rfl, k1]; exact nI_nge hk (by omega)), fun _ => ?_⟩
    rw [nI_c (by omega), nI_s, g 24 _ rfl, q1 k]
    refine ⟨fun c => ?_, fun c => ⟨vin (by omega) (by omega), ?_⟩⟩
    · rw [or_0 (if_neg (fun q => bnf c q))] at ih; exact ih
    · rw [or_1 (if_pos c)] at ih; exact ih
theorem s_se_knotsOf (h : Inv N S X) (m : Int32) : Ev E m_se_knotsOf 0 [(0, .ref 23), (1, .int m)] [] X (0, 0) (gp_q (some (.int (knS N X m))) X) := s_se_knotsOf' h h.lay (cf_0 X) m
theorem and_z {x y : Int32} : x &&& y = 0 ↔ ∀ i, bt x i = true → bt y i = false := by
  constructor
  · intro h i hi
    have := congrArg (fun z => bt z i) h
    simp only [b_and, b_0, hi, Bool.true_and] at this
    exact this
  · intro h
    refine b_ext (fun i _ => ?_)
    rw [b_and, b_0]
    cases z : bt x i with
    | false => rfl
    | true => rw [h i z]; rfl
theorem kn_all (h : Inv N S X) {x : Int32} : x &&& knS N X (((1 : Int32) <<< (nI (N 7) &&& 31)) - 1) = 0 ↔ ∀ s, s < N 7 → gI X 85 s &&& x = 0 := by
  have k3 := h.sec.1.2.2
  rw [and_z]
  constructor
  · intro z s hs
    rw [and_z]
    intro i hi
    cases q : bt x i with
    | false => rfl
    | true =>
      have := z i q
      rw [← Bool.not_eq_true] at this
      refine absurd ((or_bt (N 7)).mpr ⟨s, hs, ?_⟩) this
      unfold knF
      rw [gb_bt _ (by omega), bt_all (N 7) (by omega) s (by omega), decide_eq_true hs, if_pos rfl]
      exact hi
  · intro z i hi
    cases q : bt (knS N X (((1 : Int32) <<< (nI (N 7) &&& 31)) - 1)) i with
    | false => rfl
    | true =>
      obtain ⟨s, hs, c⟩ := (or_bt (N 7)).mp q
      unfold knF at c
      split at c
      · have := and_z.mp (z s hs) i c
        rw [hi] at this
        exact absurd this (by decide)
      · rw [b_0] at c; exact absurd c (by decide)
theorem allm_lt : ∀ n, n < 21 → (allm n).toInt + 1 = ((1 : Int32) <<< (nI n &&& 31)).toInt := by decide +kernel
theorem le_all {n : Nat} {x : Int32} (hn : n < 21) : x ≤ allm n ↔ x < (1 : Int32) <<< (nI n &&& 31) := by
  have := allm_lt n hn
  rw [Int32.le_iff_toInt_le, Int32.lt_iff_toInt_lt]
  omega
/-- a set that both take -/
theorem set_ok {n : Nat} {x : Int32} (hn : n < 21) : (¬ x = 0 ∧ low n x) ↔ (¬ x ≤ 0 ∧ x < (1 : Int32) <<< (nI n &&& 31)) := by
  rw [low_lt hn]
  constructor
  · rintro ⟨a, b, c⟩
    exact ⟨fun z => a (Int32.le_antisymm z b), c⟩
  · rintro ⟨a, c⟩
    exact ⟨fun z => a (by rw [z]; exact Int32.le_refl _), Int32.le_of_lt (Int32.not_le.mp a), c⟩
theorem I_sec_add {N N' : Nat → Nat} {X X' : gp_H} {x : Int32} (h : I_sec N X) (h0 : N' 0 = N 0) (h7 : N' 7 = N 7 + 1) (hl : N 7 < 7) (hx : 0 < x ∧ x < (1 : Int32) <<< (nI (N 0) &&& 31)) (hd : ∀ s, s < N 7 → gI X 85 s &&& x = 0) (s1 : gI X' 23 1 = nI (N 7 + 1)) (s2 : gI X' 55 37 = nI (N 7 + 1)) (s3 : gI X' 23 3 = gI X 23 3) (r24 : ∀ i, gI X' 24 i = if i = N 7 then x else gI X 24 i) (r85 : ∀ i, gI X' 85 i = if i = N 7 then x else gI X 85 i) (r86 : ∀ i, gI X' 86 i = gI X 86 i) : I_sec N' X' := by
  obtain ⟨⟨w1, w2, w3⟩, q1, q2, q3, q4, q5, q6, q7, q8⟩ := h
  unfold I_sec
  rw [h0, h7, s3]
  refine ⟨⟨s1, s2, hl⟩, two_rows q1 r24 r85, fun i hi => ?_, fun i j hi hj ne => ?_, fun i => by rw [r86]; exact q4 i, fun i hi => ?_, q6, Int32.lt_trans q7 (shl_lt (by omega) (by omega)), fun i hi => by rw [r86]; exact q8 i (by omega)⟩
  · by_cases z : i = N 7
    · subst z; rw [row_at r85]; exact hx
    · rw [row_ne r85 z]; exact q2 i (by omega)
  · by_cases z : i = N 7
    · subst z
      rw [row_at r85, row_ne r85 (Ne.symm ne), Int32.and_comm]
      exact hd j (by omega)
    · by_cases z2 : j = N 7
      · subst z2
        rw [row_at r85, row_ne r85 z]
        exact hd i (by omega)
      · rw [row_ne r85 z, row_ne r85 z2]
        exact q3 i j (by omega) (by omega) ne
  · rw [r86]
    by_cases z : i = N 7
    · subst z
      rw [gb_bt _ (by omega), (low_lt (by omega)).mpr ⟨q6, q7⟩ (N 7) (Nat.le_refl _), q8 (N 7) (Nat.le_refl _)]
      rfl
    · exact q5 i (by omega)
theorem I_pln_N {N N' : Nat → Nat} {X : gp_H} (h7 : N 7 ≤ N' 7) (h8 : N' 8 = N 8) (h : I_pln N X) : I_pln N' X := by
  unfold I_pln at h ⊢
  rw [h8]
  refine ⟨h.1, fun i hi => ?_, h.2.2⟩
  obtain ⟨a, t, b, c⟩ := h.2.1 i hi
  exact ⟨a, t, by omega, c⟩
theorem sc_ok (h : Inv N S X) (hX : Lay S Y) (g : Rf X Y) {x : Int32} {Q : Option Value → gp_H → Prop} (hd : ∀ s, s < N 7 → gI X 85 s &&& x = 0) (k : Ev E m_mo_sector 17 [(0, .ref 55), (1, .int x), (2, .int (nI (N 7)))] [] Y (0, 0) Q) : Ev E m_mo_sector 17 [(0, .ref 55), (1, .int x), (2, .int 0)] [] Y (0, 0) Q := by
  obtain ⟨⟨k1, k2, k3⟩, -⟩ := h.sec
  refine dn (P := fun k => Ev E m_mo_sector 17 [(0, .ref 55), (1, .int x), (2, .int (nI k))] [] Y (0, 0) Q) (n := N 7) k (fun k hk ih => ?_)
  refine b_mo_sector_17 hX ⟨fun z => absurd z (by rw [g 55 37 rfl, k2]; exact nI_nge hk (by omega)), fun _ => ⟨vin (by omega) (by omega), ?_⟩⟩
  rw [nI_c (by omega), nI_s, g 85 _ rfl]
  exact ⟨fun _ => ih, fun c => absurd (hd k hk) c⟩
theorem sc_no (h : Inv N S X) {x : Int32} {Q : Option Value → gp_H → Prop} (hd : ∃ s, s < N 7 ∧ ¬ gI X 85 s &&& x = 0) (hq : Q (some (.int (-3))) X) : Ev E m_mo_sector 17 [(0, .ref 55), (1, .int x), (2, .int 0)] [] X (0, 0) Q := by
  obtain ⟨⟨k1, k2, k3⟩, -⟩ := h.sec
  have hX := h.lay
  have := dn (P := fun k => (∃ s, k ≤ s ∧ s < N 7 ∧ ¬ gI X 85 s &&& x = 0) → Ev E m_mo_sector 17 [(0, .ref 55), (1, .int x), (2, .int (nI k))] [] X (0, 0) Q) (n := N 7) (fun ⟨s, a, b, _⟩ => by omega) (fun k hk ih ⟨s, a, b, c⟩ => by
    refine b_mo_sector_17 hX ⟨fun z => absurd z (by rw [k2]; exact nI_nge hk (by omega)), fun _ => ⟨vin (by omega) (by omega), ?_⟩⟩
    rw [nI_c (by omega), nI_s]
    exact ⟨fun c2 => ih ⟨s, Nat.lt_of_le_of_ne a (fun e => c (e ▸ c2)), b, c⟩, fun _ => hq⟩)
  obtain ⟨s, a, b⟩ := hd
  exact this ⟨s, Nat.zero_le _, a, b⟩
end SEC
theorem p_sector {E : gp_E} {N : Nat → Nat} {S : gp_S} {X : gp_H} (h : Inv N S X) (x1 : Int32) : Ev E m_ga_sector 0 [(0, .ref 0), (1, .int x1)] [] X (0, 0) (gp_two E m_mo_sector [(0, .ref 55), (1, .int x1)]) := by
  have hL := h.lay
  obtain ⟨⟨k1, k2, k3⟩, q1, -⟩ := h.sec
  have hn := h.net.1
  have ok := set_ok (n := N 0) (x := x1) (by omega)
  have al := le_all (n := N 0) (x := x1) (by omega)
  refine b_ga_sector_0 hL ?_
  rw [hn.1, low_in (show N 0 < 21 by omega), k1]
  have R := fun {Y : gp_H} (lY : Lay S Y) (gY : Rf X Y) {Q} => show _ from by
    have := b_mo_sector_0 (E := E) (x1 := x1) (Q := Q) lY
    rw [gY 55 0 rfl, hn.2.1, al] at this
    exact this
  have bad : ¬ (¬ x1 = 0 ∧ low (N 0) x1) → gp_two E m_mo_sector [(0, .ref 55), (1, .int x1)] (some (.int (-2))) X := fun c => ⟨_, S, rfl, hL, R hL (rf_0 X) ⟨fun _ => ⟨rfl, N, h⟩, fun z => ⟨fun z2 => absurd (ok.mpr ⟨z, z2⟩) c, fun _ => ⟨rfl, N, h⟩⟩⟩⟩
  refine ⟨fun c => bad (fun q => q.1 c), fun c => ⟨fun c2 => ?_, fun c2 => bad (fun q => c2 q.2)⟩⟩
  obtain ⟨o1, o2⟩ := ok.mp ⟨c, c2⟩
  refine wh_i (s_se_knotsOf h _) hL ?_
  rw [kn_all h, k1]
  refine ⟨fun c3 => ⟨fun c4 => ?_, fun c4 => ?_⟩, fun c3 => ?_⟩
  · have hl : N 7 < 7 := (nI_lt_lit (k := 7) rfl (by omega) (by omega)).mp c4
    have gY : Rf X (gp_sI (gp_sI X 24 (N 7) x1) 23 1 (nI (N 7) + 1)) := rg_sI (rg_sI (rf_0 X))
    rw [nI_c (by omega)]
    refine ⟨vin hl (by omega), _, S, rfl, ly_sI (ly_sI hL), R (ly_sI (ly_sI hL)) gY ⟨fun z => absurd z o1, fun _ => ⟨fun _ => sc_ok h (ly_sI (ly_sI hL)) gY c3 (b_mo_sector_17 (ly_sI (ly_sI hL)) ⟨fun _ => ⟨fun _ => ?_, fun z => ?_⟩, fun z => ?_⟩), fun z => absurd o2 z⟩⟩⟩
    · rw [gY 55 37 rfl, k2, nI_c (by omega)]
      refine ⟨vin hl (by omega), by rw [nI_add_sub], ?_⟩
      exact iv_get (fun i => if i = 7 then N 7 + 1 else N i) (X_sI (X_sI (X_sI (X_sI (X_0 h))))) (fun hx => ⟨hx.1, (hx.2.1 rfl), (hx.2.2.1 rfl), (hx.2.2.2.1 rfl), (hx.2.2.2.2.1 rfl), (hx.2.2.2.2.2.1 rfl), (hx.2.2.2.2.2.2.1 rfl), (hx.2.2.2.2.2.2.2.1 rfl), (hx.2.2.2.2.2.2.2.2.1 rfl), (hx.2.2.2.2.2.2.2.2.2.1 rfl), I_sec_add h.sec rfl rfl hl ⟨Int32.not_le.mp o1, o2⟩ c3 (by simp only [gI_sI, Nat.reduceEqDiff, false_and, true_and, and_false, and_true, ite_false, ite_true, ↓reduceIte, reduceCtorEq, nI_s]) (by simp only [gI_sI, Nat.reduceEqDiff, false_and, true_and, and_false, and_true, ite_false, ite_true, ↓reduceIte, reduceCtorEq, nI_s]) (by simp only [gI_sI, Nat.reduceEqDiff, false_and, true_and, and_false, and_true, ite_false, ite_true, ↓reduceIte, reduceCtorEq]) (fun i => by simp only [gI_sI, Nat.reduceEqDiff, false_and, true_and, and_false, and_true, ite_false, ite_true, ↓reduceIte, reduceCtorEq]) (fun i => by simp only [gI_sI, Nat.reduceEqDiff, false_and, true_and, and_false, and_true, ite_false, ite_true, ↓reduceIte, reduceCtorEq]) (fun i => by simp only [gI_sI, Nat.reduceEqDiff, false_and, true_and, and_false, and_true, ite_false, ite_true, ↓reduceIte, reduceCtorEq]), I_pln_N (Nat.le_succ _) rfl (hx.2.2.2.2.2.2.2.2.2.2.2.1 rfl), (hx.2.2.2.2.2.2.2.2.2.2.2.2.1 rfl), (hx.2.2.2.2.2.2.2.2.2.2.2.2.2.1 rfl), (hx.2.2.2.2.2.2.2.2.2.2.2.2.2.2.1 rfl), (hx.2.2.2.2.2.2.2.2.2.2.2.2.2.2.2.1 rfl), (hx.2.2.2.2.2.2.2.2.2.2.2.2.2.2.2.2.1 rfl), (hx.2.2.2.2.2.2.2.2.2.2.2.2.2.2.2.2.2.1 rfl), (hx.2.2.2.2.2.2.2.2.2.2.2.2.2.2.2.2.2.2.1 rfl), (hx.2.2.2.2.2.2.2.2.2.2.2.2.2.2.2.2.2.2.2.1 rfl), (hx.2.2.2.2.2.2.2.2.2.2.2.2.2.2.2.2.2.2.2.2.1 rfl), (hx.2.2.2.2.2.2.2.2.2.2.2.2.2.2.2.2.2.2.2.2.2 rfl)⟩)
    · rw [gY 55 37 rfl, k2] at z
      exact absurd ((nI_eq_lit (k := 7) rfl (by omega) (by omega)).mp z) (by omega)
    · exact absurd (by rw [gY 55 37 rfl, k2]; exact Int32.le_refl _) z
  · have hl : ¬ N 7 < 7 := fun y => c4 ((nI_lt_lit (k := 7) rfl (by omega) (by omega)).mpr y)
    refine ⟨_, S, rfl, hL, R hL (rf_0 X) ⟨fun z => absurd z o1, fun _ => ⟨fun _ => sc_ok h hL (rf_0 X) c3 (b_mo_sector_17 hL ⟨fun _ => ⟨fun z => ?_, fun _ => ⟨rfl, N, h⟩⟩, fun z => absurd (by rw [k2]; exact Int32.le_refl _) z⟩), fun z => absurd o2 z⟩⟩⟩
    rw [k2] at z
    exact absurd ((nI_eq_lit (n := N 7) (k := 7) rfl (by omega) (by omega)).mpr (by omega)) z
  · have : ∃ s, s < N 7 ∧ ¬ gI X 85 s &&& x1 = 0 := by
      obtain ⟨s, hs⟩ := Classical.not_forall.mp c3
      exact ⟨s, Classical.not_imp.mp hs⟩
    exact ⟨_, S, rfl, hL, R hL (rf_0 X) ⟨fun z => absurd z o1, fun _ => ⟨fun _ => sc_no h this ⟨rfl, N, h⟩, fun z => absurd o2 z⟩⟩⟩
