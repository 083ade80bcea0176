theorem mx_l {a : Nat} (h : a ≤ 60) : (if nI 0 < nI a then nI a else nI 0) = nI a := by
  by_cases z : nI 0 < nI a
  · rw [if_pos z]
  · rw [if_neg z]
    rw [nI_ltI (by omega) (by omega)] at z
    rw [show a = 0 by omega]
theorem mx_r {a : Nat} (h : a ≤ 60) : (if nI a < nI 0 then nI 0 else nI a) = nI a := by
  have z : ¬ nI a < nI 0 := by rw [nI_ltI (by omega) (by omega)]; omega
  rw [if_neg z]
theorem p_law {E : gp_E} {N : Nat → Nat} {S : gp_S} {X : gp_H} (h : Inv N S X) : Ev E m_ga_law 0 [(0, .ref 0)] [] X (0, 0) (gp_two E m_mo_law [(0, .ref 55)]) := by
  have hL := h.lay
  obtain ⟨⟨k1, k2, k3⟩, q1⟩ := h.tap
  obtain ⟨⟨j1, j2, j3⟩, -, -⟩ := h.law
  refine b_ga_law_0 hL ?_
  rw [j1]
  have full : ¬ nI (N 12) < 10 → gI X 55 57 = 10 := fun c => by
    have : ¬ N 12 < 10 := fun y => c ((nI_lt_lit (k := 10) rfl (by omega) (by omega)).mpr y)
    rw [j2]
    exact (nI_eq_lit (n := N 12) (k := 10) rfl (by omega) (by omega)).mpr (by omega)
  refine ⟨fun c => ?_, fun c => ⟨_, S, rfl, hL, b_mo_law_0 hL ⟨fun z => absurd (full c) z, fun _ => ⟨rfl, N, h⟩⟩⟩⟩
  have hl : N 12 < 10 := (nI_lt_lit (k := 10) rfl (by omega) (by omega)).mp c
  obtain ⟨R0, r0⟩ : ∃ R, mR (gI X 102) (N 14) 0 = R := ⟨_, rfl⟩
  obtain ⟨R1, r1⟩ : ∃ R, mR (gI X 102) (N 14) 1 = R := ⟨_, rfl⟩
  have l0 := mR_le r0
  have l1 := mR_le r1
  have e0 := mtR_m k3 l0
  have e1 := mtR_m k3 l1
  refine ⟨lQ E S, b_la_readTape_0 hL ?_, fun r Y hq => hq⟩
  refine ⟨_, mR_c h (i := 0) (by decide) r0 hL (fun _ _ _ => rfl), fun r Y1 ⟨y1, y2, y3, y4⟩ => ⟨_, y1, y2, fun v9 => ?_, fun v9 => ?_⟩⟩
  · refine ⟨_, mR_c h (i := 1) (by decide) r1 y2 y3, fun r Y2 ⟨z1, z2, z3, z4⟩ => ⟨_, z1, z2, fun v21 => ⟨_, rfl, ly_sI z2, ?_⟩, fun v21 => ?_⟩⟩
    · have g0 := e0.2 v9
      have g1 := e1.2 v21
      rw [g0, g1]
      by_cases w : 0 < N 14 ∧ gI X 102 0 = 112
      · have w0 : ¬ (0 < N 14 ∧ gI X 102 0 = 98) := fun y => absurd (w.2.symm.trans y.2) (by decide)
        refine law_bad h hl z2 z3 (i := 1) (if_pos w) r1 (fun y => v21 (e1.1.mpr y)) ?_
        rw [mR_0 r0 w0]
        exact congrArg (fun z => -10 - z) (mx_l (a := R1.2.1) (by omega))
      · refine law_bad h hl z2 z3 (i := 0) (if_neg w) r0 (fun y => v9 (e0.1.mpr y)) ?_
        rw [mR_1 r1 w]
        exact congrArg (fun z => -10 - z) (mx_r (a := R0.2.1) (by omega))
    · have ok := e1.1.mp v21
      have w : 0 < N 14 ∧ gI X 102 0 = 112 := Classical.byContradiction (fun y => by rw [mR_1 r1 y] at ok; exact absurd ok.1 Bool.false_ne_true)
      have len := mR_3 r1 (by decide) ok.1
      refine ⟨vin (k := 1) (by omega) (by omega), vin (k := 2) (by omega) (by omega), vin (k := 0) (by omega) (by omega), lQ E S, law_end h hl z2 z3 (i := 1) (if_pos w) r1 ok (by decide) (by decide) (fun Z u => ⟨?_, ?_, Or.inr ⟨rfl, rfl, ?_⟩⟩), fun r Yf ⟨v, a, b, c⟩ => ⟨v, a, b, v, rfl, b, c⟩⟩
      · exact (u 1 (by omega)).trans (z4 1 (by omega)).symm
      · exact (u 2 (by omega)).trans (z4 2 (by omega)).symm
      · exact (z4 0 (by omega)).trans (u 0 (by omega)).symm
  · have ok := e0.1.mp v9
    have w0 : 0 < N 14 ∧ gI X 102 0 = 98 := Classical.byContradiction (fun y => by rw [mR_0 r0 y] at ok; exact absurd ok.1 Bool.false_ne_true)
    have w : ¬ (0 < N 14 ∧ gI X 102 0 = 112) := fun y => absurd (w0.2.symm.trans y.2) (by decide)
    have len := mR_3 r0 (by decide) ok.1
    refine ⟨vin (k := 0) (by omega) (by omega), vin (k := 1) (by omega) (by omega), vin (k := 2) (by omega) (by omega), lQ E S, law_end h hl y2 y3 (i := 0) (if_neg w) r0 ok (by decide) (by decide) (fun Z u => ⟨?_, ?_, Or.inl ⟨rfl, rfl, ?_⟩⟩), fun r Yf ⟨v, a, b, c⟩ => ⟨v, a, b, v, rfl, b, c⟩⟩
    · exact (u 0 (by omega)).trans (y4 0 (by omega)).symm
    · exact (u 1 (by omega)).trans (y4 1 (by omega)).symm
    · exact (y4 2 (by omega)).trans (u 2 (by omega)).symm
