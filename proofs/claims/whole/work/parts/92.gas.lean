theorem ev_q {E : gp_E} {y : gp_M} {pc : Nat} {L : List (Nat × Value)} {st : List Value} {X Z : gp_H} {u : Nat × Nat} {Q : Option Value → gp_H → Prop} {v : Option Value} (k : Ev E y pc L st X u (gp_q v Z)) (hq : Q v Z) : Ev E y pc L st X u Q := ev_post (fun r X' e => by obtain ⟨rfl, rfl⟩ := e; exact hq) k
theorem p_gas {E : gp_E} {N : Nat → Nat} {S : gp_S} {X : gp_H} (h : Inv N S X) (x1 : Int32) : Ev E m_ga_gas 0 [(0, .ref 0), (1, .int x1)] [] X (0, 0) (gp_two E m_mo_gas [(0, .ref 55), (1, .int x1)]) := by
  have hL := h.lay
  have hn := h.net.1
  refine b_ga_gas_0 hL ?_
  rw [hn.1]
  have R := fun {Q} => b_mo_gas_0 (E := E) (x1 := x1) (Q := Q) hL
  rw [hn.2.1] at R
  refine ⟨fun c => ?_, fun c => ⟨_, S, rfl, hL, R ⟨fun _ => ⟨rfl, N, h⟩, fun z => bnf c z⟩⟩⟩
  obtain ⟨k, hk, rfl⟩ := iw_nI (by omega) c
  refine wh_i (s_ne_oldReach h) hL (wh_i (s_ne_newReach h) hL (wh_i (s_ga_gasAt hL _ _ _) hL ?_))
  rw [gas_V (k := k) (by omega)]
  exact ⟨_, S, rfl, hL, R ⟨fun z => bne c z, fun _ => wh_i (s_mo_gasAt h (by omega)) hL ⟨rfl, N, h⟩⟩⟩
theorem p_pressure {E : gp_E} {N : Nat → Nat} {S : gp_S} {X : gp_H} (h : Inv N S X) (x1 : Int32) : Ev E m_ga_pressure 0 [(0, .ref 0), (1, .int x1)] [] X (0, 0) (gp_two E m_mo_pressure [(0, .ref 55), (1, .int x1)]) := by
  have hL := h.lay
  have hn := h.net.1
  refine b_ga_pressure_0 hL ?_
  rw [hn.1]
  have R := fun {Q} => b_mo_pressure_0 (E := E) (x1 := x1) (Q := Q) hL
  rw [hn.2.1] at R
  refine ⟨fun c => ?_, fun c => ⟨_, S, rfl, hL, R ⟨fun z => bnf c z, fun _ => ⟨rfl, N, h⟩⟩⟩⟩
  obtain ⟨k, hk, rfl⟩ := iw_nI (by omega) c
  have RR : ∀ v : Int32, (gas N X k = 0 → v = -1) → (gas N X k = 3 → v = -2) → (¬ gas N X k = 0 → ¬ gas N X k = 3 → usS S X (area N X k) 0 = 0 → v = 4) → (¬ gas N X k = 0 → ¬ gas N X k = 3 → ¬ usS S X (area N X k) 0 = 0 → ¬ gas N X k = 1 → v = sm (stF X (5000 * 100 / usS S X (area N X k) 0)) 4) → (¬ usS S X (area N X k) 0 = 0 → gas N X k = 1 → v = sm (stF X (mkS N X (area N X k) * 100 / usS S X (area N X k) 0)) 4) → Ev E m_mo_pressure 0 [(0, .ref 55), (1, .int (nI k))] [] X (0, 0) (fun r2 X2 => r2 = some (.int v) ∧ ∃ N, Inv N S X2) := by
    intro v h0 h3 h4 h5 h6
    have m74 : ∀ t0 : Int32, ¬ usS S X (area N X k) 0 = 0 → v = sm (stF X (t0 * 100 / usS S X (area N X k) 0)) 4 → Ev E m_mo_pressure 74 [(0, .ref 55), (1, .int (nI k)), (2, .int (gas N X k)), (3, .int (area N X k)), (4, .int (usS S X (area N X k) 0))] [.int t0] X (0, 0) (fun r2 X2 => r2 = some (.int v) ∧ ∃ N, Inv N S X2) := by
      intro t0 z e
      exact b_mo_pressure_74 hL ⟨z, ev_q (s_mo_pressure88 h _ _ _ _ _) ⟨by rw [e], N, h⟩⟩
    refine R ⟨fun _ => wh_i (s_mo_gasAt h (by omega)) hL ⟨fun z => ?_, fun z => ⟨fun z2 => wh_i (s_mo_areaOf h k) hL (wh_i (s_mo_useAt h _ _) hL ⟨fun z3 => ⟨fun z4 => m74 _ z3 (h5 z z2 z3 z4), fun z4 => wh_i (s_mo_makeAt h _) hL (m74 _ z3 (h6 z3 z4))⟩, fun z3 => ⟨by rw [h4 z z2 z3], N, h⟩⟩), fun z2 => ?_⟩⟩, fun z => bne c z⟩
    · exact b_mo_pressure_26 hL ⟨fun y => absurd z y, fun _ => ⟨by rw [h0 z], N, h⟩⟩
    · exact b_mo_pressure_26 hL ⟨fun _ => ⟨by rw [h3 z2], N, h⟩, fun y => absurd y z⟩
  obtain ⟨t, ht, et⟩ := us_nat h (area N X k) 0
  have us0 : ∀ {P : Prop}, 0 < usS S X (area N X k) 0 → usS S X (area N X k) 0 = 0 → P := fun a b => absurd (b ▸ a) (Int32.lt_irrefl)
  have us1 : ¬ 0 < usS S X (area N X k) 0 → usS S X (area N X k) 0 = 0 := fun a => by
    rw [et] at a ⊢
    have : ¬ 0 < t := fun q => a (nI_lt (a := 0) q (by omega))
    rw [show t = 0 by omega]; rfl
  have g75 : ∀ t0 : Int32, (0 < usS S X (area N X k) 0 → Ev E m_mo_pressure 0 [(0, .ref 55), (1, .int (nI k))] [] X (0, 0) (fun r2 X2 => r2 = some (.int (sm (stF X (t0 * 100 / usS S X (area N X k) 0)) 4)) ∧ ∃ N, Inv N S X2)) → (¬ 0 < usS S X (area N X k) 0 → Ev E m_mo_pressure 0 [(0, .ref 55), (1, .int (nI k))] [] X (0, 0) (fun r2 X2 => r2 = some (.int 4) ∧ ∃ N, Inv N S X2)) → Ev E m_ga_pressure 75 [(0, .ref 0), (1, .int (nI k)), (2, .int (gas N X k)), (3, .int (area N X k))] [.int t0] X (0, 0) (gp_two E m_mo_pressure [(0, .ref 55), (1, .int (nI k))]) := by
    intro t0 a b
    exact b_ga_pressure_75 hL (wh_i (s_ga_useIn h _ _) hL ⟨fun z => ⟨fun y => us0 z y, wh_i (s_ga_stepsUpTo h _) hL ⟨_, S, rfl, hL, a z⟩⟩, fun z => ⟨_, S, rfl, hL, b z⟩⟩)
  refine wh_i (s_ne_oldReach h) hL (wh_i (s_ne_newReach h) hL (wh_i (s_ga_gasAt hL _ _ _) hL ?_))
  rw [gas_V (k := k) (by omega)]
  refine ⟨fun z => ⟨fun z2 => wh_i (s_ne_areaOf h k) hL ⟨fun z3 => g75 _ (fun y => RR _ (fun q => absurd q z) (fun q => absurd q z2) (fun _ _ q => us0 y q) (fun _ _ _ _ => rfl) (fun _ q => absurd q z3)) (fun y => RR _ (fun q => absurd q z) (fun q => absurd q z2) (fun _ _ _ => rfl) (fun _ _ q => absurd (us1 y) q) (fun q => absurd (us1 y) q)), fun z3 => wh_i (s_ne_makeIn h _) hL (g75 _ (fun y => RR _ (fun q => absurd q z) (fun q => absurd q z2) (fun _ _ q => us0 y q) (fun _ _ _ q => absurd z3 q) (fun _ _ => rfl)) (fun y => RR _ (fun q => absurd q z) (fun q => absurd q z2) (fun _ _ _ => rfl) (fun _ _ q => absurd (us1 y) q) (fun q => absurd (us1 y) q)))⟩, fun z2 => ⟨_, S, rfl, hL, RR _ (fun q => absurd q z) (fun _ => rfl) (fun _ q => absurd z2 q) (fun _ q => absurd z2 q) (fun _ q => absurd (z2.symm.trans q) (by decide))⟩⟩, fun z => ⟨_, S, rfl, hL, RR _ (fun _ => rfl) (fun q => absurd (z.symm.trans q) (by decide)) (fun q => absurd z q) (fun q => absurd z q) (fun _ q => absurd (z.symm.trans q) (by decide))⟩⟩
theorem p_work {E : gp_E} {N : Nat → Nat} {S : gp_S} {X : gp_H} (h : Inv N S X) (x1 x2 : Int32) : Ev E m_ga_work 0 [(0, .ref 0), (1, .int x1), (2, .int x2)] [] X (0, 0) (gp_two E m_mo_work [(0, .ref 55), (1, .int x1), (2, .int x2)]) := by
  have hL := h.lay
  obtain ⟨⟨k1, k2, k3⟩, q1, q2, q3⟩ := h.wrk
  refine b_ga_work_0 hL ?_
  rw [k1]
  have R := fun {Q} => b_mo_work_0 (E := E) (x1 := x1) (x2 := x2) (Q := Q) hL
  rw [k2] at R
  refine ⟨fun c1 => ?_, fun c1 => ⟨_, S, rfl, hL, R ⟨fun z => bnf c1 z, fun _ => ⟨rfl, N, h⟩⟩⟩⟩
  obtain ⟨w, hw, rfl⟩ := iw_nI (by omega) c1
  have hi : vp_in (nI w) 5 := vin (by omega) (by omega)
  have hs := q1 w
  obtain ⟨k, m, co, p1, p2, -⟩ := q2 w hw
  rw [nI_c (show w < 2147483648 by omega)] at R ⊢
  rw [hs.1, hs.2.1, hs.2.2.1, hs.2.2.2]
  refine ⟨fun c => ⟨_, S, rfl, hL, R ⟨fun _ => ⟨fun _ => ⟨rfl, N, h⟩, fun z => absurd c (by rw [z]; decide), fun z => absurd c (by rw [z]; decide), fun z => absurd c (by rw [z]; decide), fun z => absurd c (by rw [z]; decide), fun z => absurd c (by rw [z]; decide)⟩, fun z => bne c1 z⟩⟩, fun c => ⟨hi, ?_⟩, fun c => ⟨hi, ?_⟩, fun c => ⟨hi, ?_⟩, fun c => ⟨hi, ?_⟩, fun c => ⟨hi, ?_⟩⟩
  · exact ⟨_, S, rfl, hL, R ⟨fun _ => ⟨fun z => absurd z (by rw [c]; decide), fun _ => ⟨hi, rfl, N, h⟩, fun z => absurd z (by rw [c]; decide), fun z => absurd z (by rw [c]; decide), fun z => absurd z (by rw [c]; decide), fun z => absurd z (by rw [c]; decide)⟩, fun z => bne c1 z⟩⟩
  · exact ⟨_, S, rfl, hL, R ⟨fun _ => ⟨fun z => absurd z (by rw [c]; decide), fun z => absurd z (by rw [c]; decide), fun _ => ⟨hi, rfl, N, h⟩, fun z => absurd z (by rw [c]; decide), fun z => absurd z (by rw [c]; decide), fun z => absurd z (by rw [c]; decide)⟩, fun z => bne c1 z⟩⟩
  · exact ⟨_, S, rfl, hL, R ⟨fun _ => ⟨fun z => absurd z (by rw [c]; decide), fun z => absurd z (by rw [c]; decide), fun z => absurd z (by rw [c]; decide), fun _ => ⟨hi, rfl, N, h⟩, fun z => absurd z (by rw [c]; decide), fun z => absurd z (by rw [c]; decide)⟩, fun z => bne c1 z⟩⟩
  · exact ⟨_, S, rfl, hL, R ⟨fun _ => ⟨fun z => absurd z (by rw [c]; decide), fun z => absurd z (by rw [c]; decide), fun z => absurd z (by rw [c]; decide), fun z => absurd z (by rw [c]; decide), fun _ => ⟨hi, fun z => ⟨by rw [decide_eq_true z]; rfl, N, h⟩, fun z => ⟨by rw [decide_eq_false z]; rfl, N, h⟩⟩, fun z => absurd z (by rw [c]; decide)⟩, fun z => bne c1 z⟩⟩
  · have sp : Ev E m_ga_isSpared 0 [(0, .ref 0), (1, .int (nI w))] [] X (0, 0) (gp_q (some (.int (if mkS N X (area N X k) - gI X 61 w < usS S X (area N X k) 1 then 0 else 1))) X) := by
      refine b_ga_isSpared_0 hL ⟨hi, ?_⟩
      rw [nI_c (show w < 2147483648 by omega), hs.1, p2]
      refine wh_i (s_ne_areaOf h k) hL (wh_i (s_ne_makeIn h _) hL (wh_i (s_ga_useIn h _ _) hL ?_))
      rw [hs.2.1]
      exact ⟨fun c => ⟨by rw [if_pos c], rfl⟩, fun c => ⟨by rw [if_neg c], rfl⟩⟩
    have RR : ∀ v : Int32, (gI X 63 w = 0 → v = 0) → (¬ gI X 63 w = 0 → mkS N X (area N X k) - gI X 61 w < usS S X (area N X k) 1 → v = 0) → (¬ gI X 63 w = 0 → ¬ mkS N X (area N X k) - gI X 61 w < usS S X (area N X k) 1 → v = 1) → Ev E m_mo_work 0 [(0, .ref 55), (1, .int (nI w)), (2, .int x2)] [] X (0, 0) (fun r2 X2 => r2 = some (.int v) ∧ ∃ N, Inv N S X2) := by
      intro v a0 a1 a2
      rw [p2] at R
      exact R ⟨fun _ => ⟨fun z => absurd z (by rw [c]; decide), fun z => absurd z (by rw [c]; decide), fun z => absurd z (by rw [c]; decide), fun z => absurd z (by rw [c]; decide), fun z => absurd z (by rw [c]; decide), fun _ => ⟨hi, wh_i (s_mo_areaOf h k) hL ⟨fun y => ⟨by rw [a0 y], N, h⟩, fun y => wh_i (s_mo_makeAt h _) hL (wh_i (s_mo_useAt h _ _) hL ⟨fun y2 => ⟨by rw [a1 y y2], N, h⟩, fun y2 => ⟨by rw [a2 y y2], N, h⟩⟩)⟩⟩⟩, fun z => bne c1 z⟩
    refine ⟨fun z => ⟨_, S, rfl, hL, RR _ (fun _ => rfl) (fun y => absurd z y) (fun y => absurd z y)⟩, fun z => wh_i sp hL ⟨fun y => ⟨_, S, rfl, hL, RR _ (fun q => absurd q z) (fun _ _ => rfl) (fun _ q => ?_)⟩, fun y => ⟨_, S, rfl, hL, RR _ (fun q => absurd q z) (fun _ q => ?_) (fun _ _ => rfl)⟩⟩⟩
    · rw [if_neg q] at y; exact absurd y (by decide)
    · rw [if_pos q] at y; exact absurd rfl y
theorem gs_2 (a b : Bool) : 2 ≤ gsV a b ↔ ¬ gsV a b &&& 2 = 0 := by cases a <;> cases b <;> decide
theorem gs_1 (a b : Bool) : (gsV a b = 1 ∨ gsV a b = 3) ↔ ¬ gsV a b &&& 1 = 0 := by cases a <;> cases b <;> decide
noncomputable def dgF (N : Nat → Nat) (X : gp_H) (j : Nat) : Int32 := if (gI X 74 j = 0 ∧ ¬ gas N X (Int32.toNatClampNeg (gI X 70 j)) &&& 2 = 0) ∨ (gI X 74 j = 1 ∧ ¬ gas N X (Int32.toNatClampNeg (gI X 70 j)) &&& 1 = 0) then 1 else 0
section DG
variable {E : gp_E} {N : Nat → Nat} {S : gp_S} {X : gp_H}
theorem s_mo_danger (h : Inv N S X) : Ev E m_mo_danger 0 [(0, .ref 55)] [] X (0, 0) (gp_q (some (.int (sm (dgF N X) S.1))) X) := by
  obtain ⟨⟨k1, k2⟩, q1⟩ := h.hom
  have hX := h.lay
  have l := l40 hX
  have hn := h.net.1
  refine b_mo_danger_0 hX ?_
  refine dn (P := fun k => Ev E m_mo_danger 4 [(0, .ref 55), (1, .int (sm (dgF N X) k)), (2, .int (nI k))] [] X (0, 0) (gp_q (some (.int (sm (dgF N X) S.1))) X)) (n := S.1) ?_ ?_
  · exact b_mo_danger_4 hX ⟨fun _ => ⟨rfl, rfl⟩, fun z => absurd (by rw [k2]; exact Int32.le_refl _) z⟩
  · intro j hj ih
    obtain ⟨-, ⟨a, b, c, p1, p2, -⟩, -⟩ := q1 j hj
    have vi : vp_in (nI j) 40 := vin (by omega) (by omega)
    have cl : Int32.toNatClampNeg (nI j) = j := nI_c (by omega)
    have ga : gas N X (Int32.toNatClampNeg (gI X 70 j)) = gas N X a := by rw [p2, nI_c (by omega)]
    have yes : ∀ x3 : Int32, ((gI X 74 j = 0 ∧ ¬ gas N X a &&& 2 = 0) ∨ (gI X 74 j = 1 ∧ ¬ gas N X a &&& 1 = 0)) → Ev E m_mo_danger 58 [(0, .ref 55), (1, .int (sm (dgF N X) j)), (2, .int (nI j)), (3, .int x3)] [.int (sm (dgF N X) j)] X (0, 0) (gp_q (some (.int (sm (dgF N X) S.1))) X) := by
      intro x3 c
      refine b_mo_danger_58 hX ?_
      rw [sm_1 (v := 1) (by unfold dgF; rw [ga, if_pos c])] at ih
      rw [nI_s]; exact ih
    have no : ∀ x3 : Int32, ¬ ((gI X 74 j = 0 ∧ ¬ gas N X a &&& 2 = 0) ∨ (gI X 74 j = 1 ∧ ¬ gas N X a &&& 1 = 0)) → Ev E m_mo_danger 62 [(0, .ref 55), (1, .int (sm (dgF N X) j)), (2, .int (nI j)), (3, .int x3)] [.int (sm (dgF N X) j)] X (0, 0) (gp_q (some (.int (sm (dgF N X) S.1))) X) := by
      intro x3 c
      refine b_mo_danger_62 hX ?_
      rw [sm_0 (by unfold dgF; rw [ga, if_neg c])] at ih
      rw [nI_s, Int32.add_zero]; exact ih
    have g2 : 2 ≤ gas N X a ↔ ¬ gas N X a &&& 2 = 0 := gs_2 _ _
    have g1 : (gas N X a = 1 ∨ gas N X a = 3) ↔ ¬ gas N X a &&& 1 = 0 := gs_1 _ _
    have e38 : (gI X 74 j = 0 → gas N X a &&& 2 = 0) → Ev E m_mo_danger 38 [(0, .ref 55), (1, .int (sm (dgF N X) j)), (2, .int (nI j)), (3, .int (gas N X a))] [.int (sm (dgF N X) j)] X (0, 0) (gp_q (some (.int (sm (dgF N X) S.1))) X) := by
      intro c0
      refine b_mo_danger_38 hX ⟨vi, ?_⟩
      rw [cl]
      exact ⟨fun c => no _ (fun q => q.elim (fun q => q.2 (c0 q.1)) (fun q => c q.1)), fun c => ⟨fun c2 => yes _ (Or.inr ⟨c, g1.mp (Or.inl c2)⟩), fun c2 => ⟨fun c3 => no _ (fun q => q.elim (fun q => q.2 (c0 q.1)) (fun q => (g1.mpr q.2).elim c2 c3)), fun c3 => yes _ (Or.inr ⟨c, g1.mp (Or.inr c3)⟩)⟩⟩⟩
    refine b_mo_danger_4 hX ⟨fun z => absurd z (by rw [k2]; exact nI_nge hj (by omega)), fun _ => ⟨vi, ?_⟩⟩
    rw [cl, p2]
    refine wh_i (s_mo_gasAt h (by omega)) hX ⟨fun c => e38 (fun q => absurd q c), fun c => ⟨fun c2 => yes _ (Or.inl ⟨c, g2.mp c2⟩), fun c2 => e38 (fun _ => Decidable.byContradiction (fun q => c2 (g2.mpr q)))⟩⟩
theorem s_ga_danger (h : Inv N S X) : Ev E m_ga_danger 0 [(0, .ref 0)] [] X (0, 0) (gp_q (some (.int (sm (dgF N X) S.1))) X) := by
  obtain ⟨⟨k1, k2⟩, q1⟩ := h.hom
  have hX := h.lay
  have l := l40 hX
  have hn := h.net.1
  refine b_ga_danger_0 hX (wh_i (s_ne_oldReach h) hX (wh_i (s_ne_newReach h) hX ?_))
  refine dn (P := fun k => Ev E m_ga_danger 21 [(0, .ref 0), (1, .int (rch N X (odS N X) (allm (N 0)) 1)), (2, .int (rch N X (teS X) (allm (N 0)) 1)), (3, .int (sm (dgF N X) k)), (4, .int (nI k))] [] X (0, 0) (gp_q (some (.int (sm (dgF N X) S.1))) X)) (n := S.1) ?_ ?_
  · exact b_ga_danger_21 hX ⟨fun _ => ⟨rfl, rfl⟩, fun z => absurd (by rw [k1]; exact Int32.le_refl _) z⟩
  · intro j hj ih
    obtain ⟨⟨e0, e1, e2, e3, e4, -⟩, ⟨a, b, c, p1, p2, -⟩, -⟩ := q1 j hj
    obtain ⟨r1, r2⟩ := hm_at hX hj
    have vi : vp_in (nI j) 40 := vin (by omega) (by omega)
    have cl : Int32.toNatClampNeg (nI j) = j := nI_c (by omega)
    have rr : X.2.2.1 16 (Int32.toNatClampNeg (nI j)) = some (S.2.2.1 j) := by rw [cl]; exact r1
    have ga : gas N X (Int32.toNatClampNeg (gI X 70 j)) = gas N X a := by rw [p2, nI_c (by omega)]
    have yes : ((gI X 74 j = 0 ∧ ¬ gas N X a &&& 2 = 0) ∨ (gI X 74 j = 1 ∧ ¬ gas N X a &&& 1 = 0)) → Ev E m_ga_danger 21 [(0, .ref 0), (1, .int (rch N X (odS N X) (allm (N 0)) 1)), (2, .int (rch N X (teS X) (allm (N 0)) 1)), (3, .int (sm (dgF N X) j + 1)), (4, .int (nI j + 1))] [] X (0, 0) (gp_q (some (.int (sm (dgF N X) S.1))) X) := by
      intro c
      rw [sm_1 (v := 1) (by unfold dgF; rw [ga, if_pos c])] at ih
      rw [nI_s]; exact ih
    have no : ¬ ((gI X 74 j = 0 ∧ ¬ gas N X a &&& 2 = 0) ∨ (gI X 74 j = 1 ∧ ¬ gas N X a &&& 1 = 0)) → Ev E m_ga_danger 21 [(0, .ref 0), (1, .int (rch N X (odS N X) (allm (N 0)) 1)), (2, .int (rch N X (teS X) (allm (N 0)) 1)), (3, .int (sm (dgF N X) j)), (4, .int (nI j + 1))] [] X (0, 0) (gp_q (some (.int (sm (dgF N X) S.1))) X) := by
      intro c
      rw [sm_0 (by unfold dgF; rw [ga, if_neg c])] at ih
      rw [nI_s]; exact ih
    have e100 : ∀ x6 t0 : Int32, (¬ x6 = 0 ↔ (gI X 74 j = 0 ∧ ¬ gas N X a &&& 2 = 0)) → (¬ t0 = 0 ↔ (gI X 74 j = 1 ∧ ¬ gas N X a &&& 1 = 0)) → Ev E m_ga_danger 100 [(0, .ref 0), (1, .int (rch N X (odS N X) (allm (N 0)) 1)), (2, .int (rch N X (teS X) (allm (N 0)) 1)), (3, .int (sm (dgF N X) j)), (4, .int (nI j)), (5, .int (gas N X a)), (6, .int x6)] [.int t0] X (0, 0) (gp_q (some (.int (sm (dgF N X) S.1))) X) := by
      intro x6 t0 c1 c2
      exact b_ga_danger_100 hX ⟨fun z => yes (Or.inl (c1.mp z)), fun z => ⟨fun z2 => no (fun q => q.elim (fun q => c1.mpr q z) (fun q => c2.mpr q z2)), fun z2 => yes (Or.inr (c2.mp z2))⟩⟩
    have e72 : ∀ t0 : Int32, (¬ t0 = 0 ↔ (gI X 74 j = 0 ∧ ¬ gas N X a &&& 2 = 0)) → Ev E m_ga_danger 72 [(0, .ref 0), (1, .int (rch N X (odS N X) (allm (N 0)) 1)), (2, .int (rch N X (teS X) (allm (N 0)) 1)), (3, .int (sm (dgF N X) j)), (4, .int (nI j)), (5, .int (gas N X a))] [.int t0] X (0, 0) (gp_q (some (.int (sm (dgF N X) S.1))) X) := by
      intro t0 c1
      refine b_ga_danger_72 hX ⟨vi, _, rr, r2, ?_⟩
      rw [e4]
      exact ⟨fun z => b_ga_danger_99 hX (e100 _ _ c1 ⟨fun q => absurd rfl q, fun q => absurd q.1 z⟩), fun z => ⟨fun z2 => b_ga_danger_99 hX (e100 _ _ c1 ⟨fun q => absurd rfl q, fun q => absurd z2 q.2⟩), fun z2 => e100 _ _ c1 ⟨fun _ => ⟨z, z2⟩, fun _ => by decide⟩⟩⟩
    refine b_ga_danger_21 hX ⟨fun z => absurd z (by rw [k1]; exact nI_nge hj (by omega)), fun _ => ⟨vi, _, rr, r2, wh_i (s_ga_gasAt hX _ _ _) hX ⟨vi, _, rr, r2, ?_⟩⟩⟩
    rw [e0, p2, gas_V (k := a) (by omega), e4]
    exact ⟨fun z => b_ga_danger_71 hX (e72 _ ⟨fun q => absurd rfl q, fun q => absurd q.1 z⟩), fun z => ⟨fun z2 => b_ga_danger_71 hX (e72 _ ⟨fun q => absurd rfl q, fun q => absurd z2 q.2⟩), fun z2 => e72 _ ⟨fun _ => ⟨z, z2⟩, fun _ => by decide⟩⟩⟩
end DG
theorem p_danger {E : gp_E} {N : Nat → Nat} {S : gp_S} {X : gp_H} (h : Inv N S X) : Ev E m_ga_danger 0 [(0, .ref 0)] [] X (0, 0) (gp_two E m_mo_danger [(0, .ref 55)]) := by
  have hL := h.lay
  exact ev_q (s_ga_danger h) ⟨_, S, rfl, hL, ev_q (s_mo_danger h) ⟨rfl, N, h⟩⟩
