theorem p_pipeOf {E : gp_E} {N : Nat → Nat} {S : gp_S} {X : gp_H} (h : Inv N S X) (x1 x2 : Int32) : Ev E m_ga_pipeOf 0 [(0, .ref 0), (1, .int x1), (2, .int x2)] [] X (0, 0) (gp_two E m_mo_pipeOf [(0, .ref 55), (1, .int x1), (2, .int x2)]) := by
  have hL := h.lay
  obtain ⟨⟨k1, k2, k3⟩, ⟨q1, q1', q1''⟩, q2, -⟩ := h.net
  refine b_ga_pipeOf_0 hL ?_
  rw [q1]
  have R := fun {Q} => b_mo_pipeOf_0 (E := E) (x1 := x1) (x2 := x2) (Q := Q) hL
  rw [q1'] at R
  refine ⟨fun c1 => ⟨fun c => ?_, fun c => ?_, fun c => ?_, fun c => ?_, fun c => ?_⟩, fun c1 => ⟨_, S, rfl, hL, R ⟨fun z => bnf c1 z, fun _ => ⟨rfl, N, h⟩⟩⟩⟩
  · exact ⟨_, S, rfl, hL, R ⟨fun _ => ⟨fun _ => ⟨rfl, N, h⟩, fun z => absurd c (by rw [z]; decide), fun z => absurd c (by rw [z]; decide), fun z => absurd c (by rw [z]; decide), fun z => absurd c (by rw [z]; decide)⟩, fun z => bne c1 z⟩⟩
  · obtain ⟨j, hj, e⟩ := iw_nI (by omega) c1
    have hi : vp_in x1 20 := by rw [e]; exact vin (by omega) (by omega)
    have hs := q2 (Int32.toNatClampNeg x1)
    refine ⟨hi, _, S, rfl, hL, R ⟨fun _ => ⟨fun z => absurd z (by rw [c]; decide), fun _ => ⟨hi, ?_⟩, fun z => absurd z (by rw [c]; decide), fun z => absurd z (by rw [c]; decide), fun z => absurd z (by rw [c]; decide)⟩, fun z => bne c1 z⟩⟩
    exact ⟨by rw [hs.1], N, h⟩
  · obtain ⟨j, hj, e⟩ := iw_nI (by omega) c1
    have hi : vp_in x1 20 := by rw [e]; exact vin (by omega) (by omega)
    have hs := q2 (Int32.toNatClampNeg x1)
    refine ⟨hi, _, S, rfl, hL, R ⟨fun _ => ⟨fun z => absurd z (by rw [c]; decide), fun z => absurd z (by rw [c]; decide), fun _ => ⟨hi, ?_⟩, fun z => absurd z (by rw [c]; decide), fun z => absurd z (by rw [c]; decide)⟩, fun z => bne c1 z⟩⟩
    exact ⟨by rw [hs.2.1], N, h⟩
  · obtain ⟨j, hj, e⟩ := iw_nI (by omega) c1
    have hi : vp_in x1 20 := by rw [e]; exact vin (by omega) (by omega)
    have hs := q2 (Int32.toNatClampNeg x1)
    refine ⟨hi, _, S, rfl, hL, R ⟨fun _ => ⟨fun z => absurd z (by rw [c]; decide), fun z => absurd z (by rw [c]; decide), fun z => absurd z (by rw [c]; decide), fun _ => ⟨hi, ?_⟩, fun z => absurd z (by rw [c]; decide)⟩, fun z => bne c1 z⟩⟩
    rw [← hs.2.2.1]
    exact ⟨fun z => ⟨by rw [decide_eq_true z]; rfl, N, h⟩, fun z => ⟨by rw [decide_eq_false z]; rfl, N, h⟩⟩
  · obtain ⟨j, hj, e⟩ := iw_nI (by omega) c1
    have hi : vp_in x1 20 := by rw [e]; exact vin (by omega) (by omega)
    have hs := q2 (Int32.toNatClampNeg x1)
    refine ⟨hi, _, S, rfl, hL, R ⟨fun _ => ⟨fun z => absurd z (by rw [c]; decide), fun z => absurd z (by rw [c]; decide), fun z => absurd z (by rw [c]; decide), fun z => absurd z (by rw [c]; decide), fun _ => ⟨hi, ?_⟩⟩, fun z => bne c1 z⟩⟩
    rw [← hs.2.2.2]
    exact ⟨fun z => ⟨by rw [decide_eq_true z]; rfl, N, h⟩, fun z => ⟨by rw [decide_eq_false z]; rfl, N, h⟩⟩
theorem p_homeOf {E : gp_E} {N : Nat → Nat} {S : gp_S} {X : gp_H} (h : Inv N S X) (x1 x2 : Int32) : Ev E m_ga_homeOf 0 [(0, .ref 0), (1, .int x1), (2, .int x2)] [] X (0, 0) (gp_two E m_mo_homeOf [(0, .ref 55), (1, .int x1), (2, .int x2)]) := by
  have hL := h.lay
  obtain ⟨⟨k1, k2⟩, q⟩ := h.hom
  have l40 : S.1 ≤ 40 := hL.2.2.2.2.2.2.2.2
  have R := fun {Q} => b_mo_homeOf_0 (E := E) (x1 := x1) (x2 := x2) (Q := Q) hL
  rw [k2] at R
  refine b_ga_homeOf_0 hL (wh_home h (fun j hj e => ?_) (fun c1 => ⟨_, S, rfl, hL, R ⟨fun z => bnf c1 z, fun _ => ⟨rfl, N, h⟩⟩⟩))
  subst e
  have c1 := iw_of hj (show S.1 ≤ 100000 by omega)
  obtain ⟨⟨a0, a1, a2, a3, a4, a5, a6, a7, a8⟩, -⟩ := q j hj
  have hi : vp_in (nI j) 40 := vin (by omega) (by omega)
  refine ⟨fun c => ⟨_, S, rfl, hL, R ⟨fun _ => ⟨fun _ => ⟨rfl, N, h⟩, fun z => absurd c (by rw [z]; decide), fun z => absurd c (by rw [z]; decide), fun z => absurd c (by rw [z]; decide), fun z => absurd c (by rw [z]; decide), fun z => absurd c (by rw [z]; decide), fun z => absurd c (by rw [z]; decide), fun z => absurd c (by rw [z]; decide), fun z => absurd c (by rw [z]; decide)⟩, fun z => bne c1 z⟩⟩, fun c => ?_, fun c => ?_, fun c => ?_, fun c => ?_, fun c => ?_, fun c => ?_, fun c => ?_, fun c => ?_⟩
  · refine ⟨_, S, rfl, hL, R ⟨fun _ => ⟨fun z => absurd z (by rw [c]; decide), fun _ => ⟨hi, ?_⟩, fun z => absurd z (by rw [c]; decide), fun z => absurd z (by rw [c]; decide), fun z => absurd z (by rw [c]; decide), fun z => absurd z (by rw [c]; decide), fun z => absurd z (by rw [c]; decide), fun z => absurd z (by rw [c]; decide), fun z => absurd z (by rw [c]; decide)⟩, fun z => bne c1 z⟩⟩
    rw [nI_c (by omega)]
    exact ⟨by rw [a0], N, h⟩
  · refine ⟨_, S, rfl, hL, R ⟨fun _ => ⟨fun z => absurd z (by rw [c]; decide), fun z => absurd z (by rw [c]; decide), fun _ => ⟨hi, ?_⟩, fun z => absurd z (by rw [c]; decide), fun z => absurd z (by rw [c]; decide), fun z => absurd z (by rw [c]; decide), fun z => absurd z (by rw [c]; decide), fun z => absurd z (by rw [c]; decide), fun z => absurd z (by rw [c]; decide)⟩, fun z => bne c1 z⟩⟩
    rw [nI_c (by omega)]
    exact ⟨by rw [a1], N, h⟩
  · refine ⟨_, S, rfl, hL, R ⟨fun _ => ⟨fun z => absurd z (by rw [c]; decide), fun z => absurd z (by rw [c]; decide), fun z => absurd z (by rw [c]; decide), fun _ => ⟨hi, ?_⟩, fun z => absurd z (by rw [c]; decide), fun z => absurd z (by rw [c]; decide), fun z => absurd z (by rw [c]; decide), fun z => absurd z (by rw [c]; decide), fun z => absurd z (by rw [c]; decide)⟩, fun z => bne c1 z⟩⟩
    rw [nI_c (by omega)]
    exact ⟨by rw [a2], N, h⟩
  · refine ⟨_, S, rfl, hL, R ⟨fun _ => ⟨fun z => absurd z (by rw [c]; decide), fun z => absurd z (by rw [c]; decide), fun z => absurd z (by rw [c]; decide), fun z => absurd z (by rw [c]; decide), fun _ => ⟨hi, ?_⟩, fun z => absurd z (by rw [c]; decide), fun z => absurd z (by rw [c]; decide), fun z => absurd z (by rw [c]; decide), fun z => absurd z (by rw [c]; decide)⟩, fun z => bne c1 z⟩⟩
    rw [nI_c (by omega)]
    exact ⟨by rw [a4], N, h⟩
  · refine ⟨_, S, rfl, hL, R ⟨fun _ => ⟨fun z => absurd z (by rw [c]; decide), fun z => absurd z (by rw [c]; decide), fun z => absurd z (by rw [c]; decide), fun z => absurd z (by rw [c]; decide), fun z => absurd z (by rw [c]; decide), fun _ => ⟨hi, ?_⟩, fun z => absurd z (by rw [c]; decide), fun z => absurd z (by rw [c]; decide), fun z => absurd z (by rw [c]; decide)⟩, fun z => bne c1 z⟩⟩
    rw [nI_c (by omega)]
    exact ⟨by rw [a5], N, h⟩
  · refine ⟨_, S, rfl, hL, R ⟨fun _ => ⟨fun z => absurd z (by rw [c]; decide), fun z => absurd z (by rw [c]; decide), fun z => absurd z (by rw [c]; decide), fun z => absurd z (by rw [c]; decide), fun z => absurd z (by rw [c]; decide), fun z => absurd z (by rw [c]; decide), fun _ => ⟨hi, ?_⟩, fun z => absurd z (by rw [c]; decide), fun z => absurd z (by rw [c]; decide)⟩, fun z => bne c1 z⟩⟩
    rw [nI_c (by omega)]
    exact ⟨by rw [a6], N, h⟩
  · refine ⟨_, S, rfl, hL, R ⟨fun _ => ⟨fun z => absurd z (by rw [c]; decide), fun z => absurd z (by rw [c]; decide), fun z => absurd z (by rw [c]; decide), fun z => absurd z (by rw [c]; decide), fun z => absurd z (by rw [c]; decide), fun z => absurd z (by rw [c]; decide), fun z => absurd z (by rw [c]; decide), fun _ => ⟨hi, ?_⟩, fun z => absurd z (by rw [c]; decide)⟩, fun z => bne c1 z⟩⟩
    rw [nI_c (by omega)]
    exact ⟨by rw [a7], N, h⟩
  · refine ⟨_, S, rfl, hL, R ⟨fun _ => ⟨fun z => absurd z (by rw [c]; decide), fun z => absurd z (by rw [c]; decide), fun z => absurd z (by rw [c]; decide), fun z => absurd z (by rw [c]; decide), fun z => absurd z (by rw [c]; decide), fun z => absurd z (by rw [c]; decide), fun z => absurd z (by rw [c]; decide), fun z => absurd z (by rw [c]; decide), fun _ => ⟨hi, ?_⟩⟩, fun z => bne c1 z⟩⟩
    rw [nI_c (by omega)]
    rw [a8]
    exact ⟨fun z => ⟨by rw [decide_eq_true z]; rfl, N, h⟩, fun z => ⟨by rw [decide_eq_false z]; rfl, N, h⟩⟩
theorem s_isLate {E : gp_E} {S : gp_S} {X : gp_H} {x1 : Int32} (hL : Lay S X) (hi : vp_in x1 30) : Ev E m_du_isLate 0 [(0, .ref 31), (1, .int x1)] [] X (0, 0) (gp_q (some (.int (if gI X 38 (Int32.toNatClampNeg x1) = -1 then 1 else if gI X 39 (Int32.toNatClampNeg x1) - gI X 37 (Int32.toNatClampNeg x1) ≤ gI X 31 10 then 0 else 1))) X) := by
  refine b_du_isLate_0 hL ⟨hi, fun c => ⟨by rw [if_pos c], rfl⟩, fun c => ⟨fun c2 => ⟨by rw [if_neg c, if_pos c2], rfl⟩, fun c2 => ⟨by rw [if_neg c, if_neg c2], rfl⟩⟩⟩
theorem p_smellOf {E : gp_E} {N : Nat → Nat} {S : gp_S} {X : gp_H} (h : Inv N S X) (x1 x2 : Int32) : Ev E m_ga_smellOf 0 [(0, .ref 0), (1, .int x1), (2, .int x2)] [] X (0, 0) (gp_two E m_mo_smellOf [(0, .ref 55), (1, .int x1), (2, .int x2)]) := by
  have hL := h.lay
  obtain ⟨⟨k1, k2, k3⟩, q, -⟩ := h.sml
  have hlim : gI X 31 10 = gI X 55 55 := h.lim
  have R := fun {Q} => b_mo_smellOf_0 (E := E) (x1 := x1) (x2 := x2) (Q := Q) hL
  rw [k2] at R
  refine b_ga_smellOf_0 hL ?_
  rw [k1]
  refine ⟨fun c1 => ?_, fun c1 => ⟨_, S, rfl, hL, R ⟨fun z => bnf c1 z, fun _ => ⟨rfl, N, h⟩⟩⟩⟩
  have hi : vp_in x1 30 := by obtain ⟨j, hj, e⟩ := iw_nI (by omega) c1; rw [e]; exact vin (by omega) (by omega)
  have hs := q (Int32.toNatClampNeg x1)
  refine ⟨fun c => ⟨_, S, rfl, hL, R ⟨fun _ => ⟨fun _ => ⟨rfl, N, h⟩, fun z => absurd c (by rw [z]; decide), fun z => absurd c (by rw [z]; decide), fun z => absurd c (by rw [z]; decide), fun z => absurd c (by rw [z]; decide), fun z => absurd c (by rw [z]; decide)⟩, fun z => bne c1 z⟩⟩, fun c => ⟨hi, ?_⟩, fun c => ⟨hi, ?_⟩, fun c => ⟨hi, ?_⟩, fun c => ⟨hi, ?_⟩, fun c => wh_i (s_isLate hL hi) hL ?_⟩
  · exact ⟨_, S, rfl, hL, R ⟨fun _ => ⟨fun z => absurd z (by rw [c]; decide), fun _ => ⟨hi, by rw [hs.1], N, h⟩, fun z => absurd z (by rw [c]; decide), fun z => absurd z (by rw [c]; decide), fun z => absurd z (by rw [c]; decide), fun z => absurd z (by rw [c]; decide)⟩, fun z => bne c1 z⟩⟩
  · exact ⟨_, S, rfl, hL, R ⟨fun _ => ⟨fun z => absurd z (by rw [c]; decide), fun z => absurd z (by rw [c]; decide), fun _ => ⟨hi, by rw [hs.2.1], N, h⟩, fun z => absurd z (by rw [c]; decide), fun z => absurd z (by rw [c]; decide), fun z => absurd z (by rw [c]; decide)⟩, fun z => bne c1 z⟩⟩
  · exact ⟨_, S, rfl, hL, R ⟨fun _ => ⟨fun z => absurd z (by rw [c]; decide), fun z => absurd z (by rw [c]; decide), fun z => absurd z (by rw [c]; decide), fun _ => ⟨hi, by rw [hs.2.2.1], N, h⟩, fun z => absurd z (by rw [c]; decide), fun z => absurd z (by rw [c]; decide)⟩, fun z => bne c1 z⟩⟩
  · exact ⟨_, S, rfl, hL, R ⟨fun _ => ⟨fun z => absurd z (by rw [c]; decide), fun z => absurd z (by rw [c]; decide), fun z => absurd z (by rw [c]; decide), fun z => absurd z (by rw [c]; decide), fun _ => ⟨hi, by rw [hs.2.2.2], N, h⟩, fun z => absurd z (by rw [c]; decide)⟩, fun z => bne c1 z⟩⟩
  · rw [hs.2.1, hs.2.2.1, hs.2.2.2, hlim]
    refine ⟨_, S, rfl, hL, R ⟨fun _ => ⟨fun z => absurd z (by rw [c]; decide), fun z => absurd z (by rw [c]; decide), fun z => absurd z (by rw [c]; decide), fun z => absurd z (by rw [c]; decide), fun z => absurd z (by rw [c]; decide), fun _ => ⟨hi, ?_⟩⟩, fun z => bne c1 z⟩⟩
    refine ⟨fun z => ⟨by rw [if_pos z]; rfl, N, h⟩, fun z => ⟨fun z2 => ⟨by rw [if_neg z, if_pos z2]; rfl, N, h⟩, fun z2 => ⟨by rw [if_neg z, if_neg z2]; rfl, N, h⟩⟩⟩
theorem p_step {E : gp_E} {N : Nat → Nat} {S : gp_S} {X : gp_H} (h : Inv N S X) (x1 x2 : Int32) : Ev E m_ga_step 0 [(0, .ref 0), (1, .int x1), (2, .int x2)] [] X (0, 0) (gp_two E m_mo_step [(0, .ref 55), (1, .int x1), (2, .int x2)]) := by
  have hL := h.lay
  have q := h.stp
  have fin : ∀ {Q : Option Value → gp_H → Prop} (c : iw x1 0 3 = true), (∀ k, k ≤ 3 → x1 = nI k → Ev E m_mo_step 0 [(0, .ref 55), (1, .int x1), (2, .int x2)] [] (gp_sI X 12 k x2) (0, 0) (fun r2 X2 => r2 = some (.int (gI X 12 k)) ∧ ∃ N, Inv N S X2)) → Ev E m_ga_step 64 [(0, .ref 0), (1, .int x1), (2, .int x2)] [] X (0, 0) (gp_two E m_mo_step [(0, .ref 55), (1, .int x1), (2, .int x2)]) := by
    intro Q c k
    obtain ⟨j, hj, e⟩ := iw_lt (n := 3) 3 (by decide) c
    have kk := k j hj e
    have e2 : Int32.toNatClampNeg x1 = j := by rw [e, nI_c (by omega)]
    refine b_ga_step_64 hL ⟨by rw [e]; exact vin (by omega) (by omega), ?_⟩
    rw [e2]
    exact ⟨_, S, rfl, ly_sI hL, kk⟩
  have mofin : ∀ j, j ≤ 3 → x1 = nI j → Ev E m_mo_step 58 [(0, .ref 55), (1, .int x1), (2, .int x2)] [] (gp_sI X 12 j x2) (0, 0) (fun r2 X2 => r2 = some (.int (gI X 12 j)) ∧ ∃ N, Inv N S X2) := by
    intro j hj e
    have e2 : Int32.toNatClampNeg x1 = j := by rw [e, nI_c (by omega)]
    refine b_mo_step_58 (ly_sI hL) ⟨by rw [e]; exact vin (by omega) (by omega), ?_⟩
    rw [e2]
    refine ⟨by rw [q j]; rfl, ?_⟩
    exact iv_get (N) (X_sI (X_sI (X_0 h))) (fun hx => ⟨hx.1, (hx.2.1 rfl), (hx.2.2.1 rfl), two_rows (n := j) (v := x2) q (fun i => by simp only [gI_sI, Nat.reduceEqDiff, false_and, true_and, and_false, and_true, ite_false, ite_true, ↓reduceIte, reduceCtorEq]) (fun i => by simp only [gI_sI, Nat.reduceEqDiff, false_and, true_and, and_false, and_true, ite_false, ite_true, ↓reduceIte, reduceCtorEq]), (hx.2.2.2.2.1 rfl), (hx.2.2.2.2.2.1 rfl), (hx.2.2.2.2.2.2.1 rfl), (hx.2.2.2.2.2.2.2.1 rfl), (hx.2.2.2.2.2.2.2.2.1 rfl), (hx.2.2.2.2.2.2.2.2.2.1 rfl), (hx.2.2.2.2.2.2.2.2.2.2.1 rfl), (hx.2.2.2.2.2.2.2.2.2.2.2.1 rfl), (hx.2.2.2.2.2.2.2.2.2.2.2.2.1 rfl), (hx.2.2.2.2.2.2.2.2.2.2.2.2.2.1 rfl), (hx.2.2.2.2.2.2.2.2.2.2.2.2.2.2.1 rfl), (hx.2.2.2.2.2.2.2.2.2.2.2.2.2.2.2.1 rfl), (hx.2.2.2.2.2.2.2.2.2.2.2.2.2.2.2.2.1 rfl), (hx.2.2.2.2.2.2.2.2.2.2.2.2.2.2.2.2.2.1 rfl), (hx.2.2.2.2.2.2.2.2.2.2.2.2.2.2.2.2.2.2.1 rfl), (hx.2.2.2.2.2.2.2.2.2.2.2.2.2.2.2.2.2.2.2.1 rfl), (hx.2.2.2.2.2.2.2.2.2.2.2.2.2.2.2.2.2.2.2.2.1 rfl), (hx.2.2.2.2.2.2.2.2.2.2.2.2.2.2.2.2.2.2.2.2.2 rfl)⟩)
  have nle : ∀ {a b : Int32}, ¬ a < b → b ≤ a := fun h => Int32.not_lt.mp h
  have nlt : ∀ {a b : Int32}, ¬ a ≤ b → b < a := fun h => Int32.not_le.mp h
  refine b_ga_step_0 hL ⟨fun c1 => ⟨fun c2 => ?_, fun c2 => ⟨_, S, rfl, hL, b_mo_step_0 hL ⟨fun _ => ⟨fun _ => ⟨rfl, N, h⟩, fun z => bnf c2 z⟩, fun z => bne c1 z⟩⟩⟩, fun c1 => ⟨_, S, rfl, hL, b_mo_step_0 hL ⟨fun z => bnf c1 z, fun _ => ⟨rfl, N, h⟩⟩⟩⟩
  obtain ⟨j, hj, e⟩ := iw_lt (n := 3) 3 (by decide) c1
  have vj1 : ¬ x1 ≤ 0 → vp_in (x1 - 1) 4 := by
    intro z; rw [e] at z ⊢
    rcases (show j = 0 ∨ j = 1 ∨ j = 2 ∨ j = 3 by omega) with r | r | r | r <;> subst r
    · exact absurd (by decide) z
    · rw [show nI 1 - 1 = nI 0 from by decide]; exact vin (by omega) (by omega)
    · rw [show nI 2 - 1 = nI 1 from by decide]; exact vin (by omega) (by omega)
    · rw [show nI 3 - 1 = nI 2 from by decide]; exact vin (by omega) (by omega)
  have vj2 : ¬ 3 ≤ x1 → vp_in (x1 + 1) 4 := by
    intro z; rw [e] at z ⊢
    rw [nI_s]
    rcases (show j = 0 ∨ j = 1 ∨ j = 2 ∨ j = 3 by omega) with r | r | r | r <;> subst r
    · exact vin (by omega) (by omega)
    · exact vin (by omega) (by omega)
    · exact vin (by omega) (by omega)
    · exact absurd (by decide) z
  have n1 : ¬ x1 ≤ 0 → Int32.toNatClampNeg (x1 - 1) ≠ j := by
    intro z; rw [e] at z ⊢
    rcases (show j = 0 ∨ j = 1 ∨ j = 2 ∨ j = 3 by omega) with r | r | r | r <;> subst r
    · exact absurd (by decide) z
    all_goals decide
  have n2 : Int32.toNatClampNeg (x1 + 1) ≠ j := by
    rw [e, nI_s, nI_c (by omega)]; omega
  -- the middle of the class
  have mid : (∀ Y : gp_H, Lay S Y → (∀ i, i ≠ j → gI Y 64 i = gI X 64 i) → ∀ {Q}, Ev E m_mo_step 38 [(0, .ref 55), (1, .int x1), (2, .int x2)] [] Y (0, 0) Q → Ev E m_mo_step 0 [(0, .ref 55), (1, .int x1), (2, .int x2)] [] Y (0, 0) Q) → Ev E m_ga_step 44 [(0, .ref 0), (1, .int x1), (2, .int x2)] [] X (0, 0) (gp_two E m_mo_step [(0, .ref 55), (1, .int x1), (2, .int x2)]) := by
    intro K
    refine b_ga_step_44 hL ⟨fun c => fin (Q := fun _ _ => True) c1 (fun k hk ek => ?_), fun c => ⟨vj2 c, fun c3 => fin (Q := fun _ _ => True) c1 (fun k hk ek => ?_), fun c3 => ?_⟩⟩
    · obtain rfl : k = j := (nI_eq (by omega) (by omega)).mp (ek.symm.trans e)
      exact K _ (ly_sI hL) (fun i hi => by simp only [gI_sI, Nat.reduceEqDiff, false_and, true_and, and_false, and_true, ite_false, ite_true, ↓reduceIte, reduceCtorEq]) (b_mo_step_38 (ly_sI hL) ⟨fun _ => mofin k hk ek, fun z => absurd c z⟩)
    · obtain rfl : k = j := (nI_eq (by omega) (by omega)).mp (ek.symm.trans e)
      refine K _ (ly_sI hL) (fun i hi => by simp only [gI_sI, Nat.reduceEqDiff, false_and, true_and, and_false, and_true, ite_false, ite_true, ↓reduceIte, reduceCtorEq]) (b_mo_step_38 (ly_sI hL) ⟨fun z => absurd z c, fun _ => ⟨vj2 c, fun _ => mofin k hk ek, fun z => ?_⟩⟩)
      have z' : ¬ x2 < gI X 64 (Int32.toNatClampNeg (x1 + 1)) := z
      rw [← q] at z'
      exact absurd c3 z'
    · refine ⟨_, S, rfl, hL, K X hL (fun _ _ => rfl) (b_mo_step_38 hL ⟨fun z => absurd z c, fun _ => ⟨vj2 c, fun z => ?_, fun _ => ⟨rfl, N, h⟩⟩⟩)⟩
      rw [← q] at z
      exact absurd z c3
  refine ⟨fun c3 => mid (fun Y lY _ Q k => b_mo_step_0 lY ⟨fun _ => ⟨fun z => bne c2 z, fun _ => ⟨fun _ => k, fun z => absurd c3 z⟩⟩, fun z => bne c1 z⟩), fun c3 => ⟨vj1 c3, fun c4 => mid (fun Y lY hY Q k => b_mo_step_0 lY ⟨fun _ => ⟨fun z => bne c2 z, fun _ => ⟨fun z => absurd z c3, fun _ => ⟨vj1 c3, fun z => ?_, fun _ => k⟩⟩⟩, fun z => bne c1 z⟩), fun c4 => ⟨_, S, rfl, hL, b_mo_step_0 hL ⟨fun _ => ⟨fun z => bne c2 z, fun _ => ⟨fun z => absurd z c3, fun _ => ⟨vj1 c3, fun _ => ⟨rfl, N, h⟩, fun z => ?_⟩⟩⟩, fun z => bne c1 z⟩⟩⟩⟩
  · rw [hY _ (n1 c3), ← q] at z
    exact absurd (Int32.lt_of_lt_of_le c4 z) (Int32.lt_irrefl)
  · rw [← q] at z
    exact absurd (nle c4) z
theorem p_trace {E : gp_E} {N : Nat → Nat} {S : gp_S} {X : gp_H} (h : Inv N S X) (x1 : Int32) : Ev E m_ga_trace 0 [(0, .ref 0), (1, .int x1)] [] X (0, 0) (gp_two E m_mo_trace [(0, .ref 55), (1, .int x1)]) := by
  have hL := h.lay
  obtain ⟨⟨k1, n, hn, k2⟩, q⟩ := h.trc
  have e20 : (20 : Int32) = nI 20 := rfl
  have e : (if 20 < gI X 13 1 then 20 else gI X 13 1) = nI (min n 20) := by
    rw [k1, k2, e20]
    by_cases z : 20 < n
    · rw [if_pos ((nI_ltI (a := 20) (by omega) (by omega)).mpr z), show min n 20 = 20 by omega]
    · rw [if_neg (fun y => z ((nI_ltI (a := 20) (by omega) (by omega)).mp y)), show min n 20 = n by omega]
  have mo : ∀ (t0 v : Int32), t0 = nI (min n 20) → (iw x1 0 (nI (min n 20) - 1) = false → v = -1) → (iw x1 0 (nI (min n 20) - 1) = true → gI X 103 (Int32.toNatClampNeg x1) = v) → Ev E m_mo_trace 20 [(0, .ref 55), (1, .int x1)] [.int t0, .int 0, .int x1] X (0, 0) (fun r2 X2 => r2 = some (.int v) ∧ ∃ N, Inv N S X2) := by
    intro t0 v ht h1 h2
    subst ht
    refine b_mo_trace_20 hL ⟨fun c => ⟨by rw [h1 c], N, h⟩, fun c => ?_⟩
    obtain ⟨i, hi, rfl⟩ := iw_nI (by omega) c
    exact ⟨vin (by omega) (by omega), by rw [h2 c], N, h⟩
  have both : ∀ v : Int32, (iw x1 0 (nI (min n 20) - 1) = false → v = -1) → (iw x1 0 (nI (min n 20) - 1) = true → gI X 103 (Int32.toNatClampNeg x1) = v) → Ev E m_mo_trace 0 [(0, .ref 55), (1, .int x1)] [] X (0, 0) (fun r2 X2 => r2 = some (.int v) ∧ ∃ N, Inv N S X2) := by
    intro v h1 h2
    refine b_mo_trace_0 hL ⟨fun z => mo _ v ?_ h1 h2, fun z => mo _ v ?_ h1 h2⟩
    · rw [k2] at z
      have := (nI_leI (a := 20) (by omega) (by omega)).mp z
      rw [show min n 20 = 20 by omega]; rfl
    · rw [k2] at z ⊢
      have : ¬ 20 ≤ n := fun y => z ((nI_leI (a := 20) (by omega) (by omega)).mpr y)
      rw [show min n 20 = n by omega]
  refine b_ga_trace_0 hL ?_
  rw [e]
  refine ⟨fun c => ?_, fun c => ?_⟩
  · obtain ⟨i, hi, rfl⟩ := iw_nI (by omega) c
    exact ⟨vin (by omega) (by omega), _, S, rfl, hL, both _ (fun z => bne c z) (fun _ => (q _).symm)⟩
  · exact ⟨_, S, rfl, hL, both _ (fun _ => rfl) (fun z => bnf c z)⟩
