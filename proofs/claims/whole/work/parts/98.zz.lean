theorem p_law {E : gp_E} {N : Nat → Nat} {S : gp_S} {X : gp_H} (h : Inv N S X) : Ev E m_ga_law 0 [(0, .ref 0)] [] X (0, 0) (gp_two E m_mo_law [(0, .ref 55)]) := by
  have hL := h.lay
  obtain ⟨⟨k1, k2, k3⟩, q1⟩ := h.tap
  obtain ⟨⟨j1, j2, j3⟩, -, -⟩ := h.law
  refine b_ga_law_0 hL ?_
  rw [j1]
  refine ⟨fun c => ?_, fun c => ⟨_, S, rfl, hL, b_mo_law_0 hL ⟨fun z => ?_, fun _ => ⟨rfl, N, h⟩⟩⟩⟩
  swap
  · rw [j2] at z
    have : ¬ N 12 < 10 := fun y => c ((nI_lt_lit (k := 10) rfl (by omega) (by omega)).mpr y)
    exact absurd ((nI_eq_lit (n := N 12) (k := 10) rfl (by omega) (by omega)).mpr (by omega)) z
  have hl : N 12 < 10 := (nI_lt_lit (k := 10) rfl (by omega) (by omega)).mp c
  have l0 : (mR (gI X 102) (N 14) 0).2.1 ≤ N 14 := mt_le 0 _ _ _ _ _ _ (Nat.zero_le _)
  have l1 : (mR (gI X 102) (N 14) 1).2.1 ≤ N 14 := mt_le 1 _ _ _ _ _ _ (Nat.zero_le _)
  have e0 := mtR_m k3 l0
  have e1 := mtR_m k3 l1
  have b0 : ¬ (0 < N 14 ∧ gI X 102 0 = 98) → mR (gI X 102) (N 14) 0 = (false, 0, []) := fun z => mt_1 (d := 23) (by decide) z
  have b1 : ¬ (0 < N 14 ∧ gI X 102 0 = 112) → mR (gI X 102) (N 14) 1 = (false, 0, []) := fun z => mt_1 (d := 24) (by decide) z
  refine ⟨fun r Y => ∃ v : Int32, r = some (.int v) ∧ Lay S Y ∧ gp_two E m_mo_law [(0, .ref 55)] (some (.int v)) Y, b_la_readTape_0 hL ?_, fun r Y hq => hq⟩
  refine ⟨_, b_la_match_0 hL (ia1 := 0) (by decide) (by decide) (mt_c h (i := 0) (by decide) (ln 0) 0 0 [] X rfl (Nat.zero_le _) rfl hL (fun _ _ _ => rfl) (fun j hj => absurd hj (Nat.not_lt_zero _))), fun r Y1 ⟨y1, y2, y3, y4⟩ => ⟨_, y1, y2, fun v9 => ?_, fun v9 => ?_⟩⟩
  · have v9' : ¬ mtR (N 14) (mR (gI X 102) (N 14) 0) = -1 := v9
    refine ⟨_, b_la_match_0 y2 (ia1 := 1) (by decide) (by decide) (mt_c h (i := 1) (by decide) (ln 1) 0 0 [] Y1 rfl (Nat.zero_le _) rfl y2 y3 (fun j hj => absurd hj (Nat.not_lt_zero _))), fun r Y2 ⟨z1, z2, z3, z4⟩ => ⟨_, z1, z2, fun v21 => ?_, fun v21 => ?_⟩⟩
    · have v21' : ¬ mtR (N 14) (mR (gI X 102) (N 14) 1) = -1 := v21
      refine ⟨_, rfl, ly_sI z2, _, S, rfl, ly_sI z2, s_law h (ly_sI z2) hl (fun k => z3 102 k (by decide)) (z3 55 64 (by decide)) (z3 55 57 (by decide)) ⟨fun i hi => (z3 110 i (by decide)).trans (h.txt.1 i hi), fun i hi => (z3 111 i (by decide)).trans (h.txt.2 i hi)⟩ (fun Z lZ fZ u1 u2 x2 t et => ?_)⟩
      have nt : ¬ ((mR (gI X 102) (N 14) (fm (gI X 102) (N 14))).1 = true ∧ (mR (gI X 102) (N 14) (fm (gI X 102) (N 14))).2.1 = N 14) := fun y => by
        rcases (show fm (gI X 102) (N 14) = 0 ∨ fm (gI X 102) (N 14) = 1 by have := fm_2 (gI X 102) (N 14); omega) with w | w
        · rw [w] at y; exact v9' (e0.1.mpr y)
        · rw [w] at y; exact v21' (e1.1.mpr y)
      rw [if_neg nt] at et
      subst et
      refine b_mo_law_114 lZ ⟨fun z => absurd rfl z, fun _ => ⟨?_, law_no h lZ rfl (fun a k w1 w2 => (if_neg w2).trans (z3 a k w1)) fZ⟩⟩
      rw [u1]
      have g0 := e0.2 v9'
      have g1 := e1.2 v21'
      show some (Value.int ((-10) - nI (mR (gI X 102) (N 14) (fm (gI X 102) (N 14))).2.1)) = some (Value.int ((-10) - (if mtR (N 14) (mR (gI X 102) (N 14) 0) < mtR (N 14) (mR (gI X 102) (N 14) 1) then mtR (N 14) (mR (gI X 102) (N 14) 1) else mtR (N 14) (mR (gI X 102) (N 14) 0))))
      rw [g0, g1, nI_ltI (by omega) (by omega)]
      by_cases w : 0 < N 14 ∧ gI X 102 0 = 112
      · have w0 : ¬ (0 < N 14 ∧ gI X 102 0 = 98) := fun y => absurd (w.2.symm.trans y.2) (by decide)
        have ef : fm (gI X 102) (N 14) = 1 := if_pos w
        rw [ef, b0 w0]
        by_cases x : 0 < (mR (gI X 102) (N 14) 1).2.1
        · rw [if_pos x]
        · rw [if_neg x, show (mR (gI X 102) (N 14) 1).2.1 = 0 by omega]
      · have ef : fm (gI X 102) (N 14) = 0 := if_neg w
        rw [ef, b1 w, if_neg (Nat.not_lt_zero _)]
    · have ok := e1.1.mp v21
      have w : 0 < N 14 ∧ gI X 102 0 = 112 := Classical.byContradiction (fun y => by rw [b1 y] at ok; exact absurd ok.1 Bool.false_ne_true)
      have ef : fm (gI X 102) (N 14) = 1 := if_pos w
      have len : (mR (gI X 102) (N 14) 1).2.2.length = 3 := (mt_len 1 _ _ _ _ _ _ rfl rfl ok.1).trans (by decide +kernel)
      have n2 := z3 40 2 (by decide)
      refine ⟨by decide, by decide, by decide, _, b_la_addLaw_0 z2 ?_, fun r Yf hq => hq⟩
      rw [n2, j1, nI_c (k := N 12) (by omega), nI_s]
      refine ⟨vin hl (by omega), by decide, _, rfl, ly_sI (ly_sI (ly_sI (ly_sI (ly_sI (ly_sI (ly_sI z2)))))), _, rfl, ly_sI (ly_sI (ly_sI (ly_sI (ly_sI (ly_sI (ly_sI z2)))))), _, S, rfl, ly_sI (ly_sI (ly_sI (ly_sI (ly_sI (ly_sI (ly_sI z2)))))), ?_⟩
      exact s_law h (ly_sI (ly_sI (ly_sI (ly_sI (ly_sI (ly_sI (ly_sI z2))))))) hl (fun k => z3 102 k (by decide)) (z3 55 64 (by decide)) (z3 55 57 (by decide)) ⟨fun i hi => (z3 110 i (by decide)).trans (h.txt.1 i hi), fun i hi => (z3 111 i (by decide)).trans (h.txt.2 i hi)⟩ (fun Z lZ fZ u1 u2 x2 t et => by
        rw [ef] at et u2 ⊢
        rw [if_pos ok] at et
        subst et
        refine b_mo_law_114 lZ ⟨fun _ => ?_, fun z => absurd z (by decide)⟩
        have n57 : gI Z 55 57 = nI (N 12) := (fZ 55 57 (by decide) (by decide) (by decide)).trans ((z3 55 57 (by decide)).trans j2)
        rw [n57, nI_c (k := N 12) (by omega), nI_add_sub, nI_s]
        refine ⟨vin hl (by omega), by decide, by decide, by decide, by decide, by decide, rfl, ?_⟩
        have r0 := u2 0 (by omega)
        have r1 := u2 1 (by omega)
        have r2 := u2 2 (by omega)
        have s0 := z4 0 (by show 0 < (mR (gI X 102) (N 14) 1).2.2.length; omega)
        have s1 := z4 1 (by show 1 < (mR (gI X 102) (N 14) 1).2.2.length; omega)
        have s2 := z4 2 (by show 2 < (mR (gI X 102) (N 14) 1).2.2.length; omega)
        have c0 : gI Z 112 0 = gI Y2 47 1 := r1.trans s1.symm
        have c1 : gI Z 112 1 = gI Y2 47 2 := r2.trans s2.symm
        have c3 : gI Z 112 3 = gI Y2 47 0 := r0.trans s0.symm
        have := law_ok (c42 := 1) (c0 := gI Y2 47 1) (c1 := gI Y2 47 2) (c2 := 0) (c3 := gI Y2 47 0) (r101 := 0) (r2 := gI Z 112 2) (r3 := gI Z 112 3) h hl lZ z3 fZ (Or.inr ⟨rfl, rfl, c3.symm⟩)
        rw [← c0, ← c1] at this
        exact this)
  · have ok := e0.1.mp v9
    have w0 : 0 < N 14 ∧ gI X 102 0 = 98 := Classical.byContradiction (fun y => by rw [b0 y] at ok; exact absurd ok.1 Bool.false_ne_true)
    have ef : fm (gI X 102) (N 14) = 0 := if_neg (fun y => absurd (w0.2.symm.trans y.2) (by decide))
    have len : (mR (gI X 102) (N 14) 0).2.2.length = 3 := (mt_len 0 _ _ _ _ _ _ rfl rfl ok.1).trans (by decide +kernel)
    have n2 := y3 40 2 (by decide)
    refine ⟨by decide, by decide, by decide, _, b_la_addLaw_0 y2 ?_, fun r Yf hq => hq⟩
    rw [n2, j1, nI_c (k := N 12) (by omega), nI_s]
    refine ⟨vin hl (by omega), by decide, _, rfl, ly_sI (ly_sI (ly_sI (ly_sI (ly_sI (ly_sI (ly_sI y2)))))), _, rfl, ly_sI (ly_sI (ly_sI (ly_sI (ly_sI (ly_sI (ly_sI y2)))))), _, S, rfl, ly_sI (ly_sI (ly_sI (ly_sI (ly_sI (ly_sI (ly_sI y2)))))), ?_⟩
    exact s_law h (ly_sI (ly_sI (ly_sI (ly_sI (ly_sI (ly_sI (ly_sI y2))))))) hl (fun k => y3 102 k (by decide)) (y3 55 64 (by decide)) (y3 55 57 (by decide)) ⟨fun i hi => (y3 110 i (by decide)).trans (h.txt.1 i hi), fun i hi => (y3 111 i (by decide)).trans (h.txt.2 i hi)⟩ (fun Z lZ fZ u1 u2 x2 t et => by
      rw [ef] at et u2 ⊢
      rw [if_pos ok] at et
      subst et
      refine b_mo_law_114 lZ ⟨fun _ => ?_, fun z => absurd z (by decide)⟩
      have n57 : gI Z 55 57 = nI (N 12) := (fZ 55 57 (by decide) (by decide) (by decide)).trans ((y3 55 57 (by decide)).trans j2)
      rw [n57, nI_c (k := N 12) (by omega), nI_add_sub, nI_s]
      refine ⟨vin hl (by omega), by decide, by decide, by decide, by decide, by decide, rfl, ?_⟩
      have r0 := u2 0 (by omega)
      have r1 := u2 1 (by omega)
      have r2 := u2 2 (by omega)
      have s0 := y4 0 (by show 0 < (mR (gI X 102) (N 14) 0).2.2.length; omega)
      have s1 := y4 1 (by show 1 < (mR (gI X 102) (N 14) 0).2.2.length; omega)
      have s2 := y4 2 (by show 2 < (mR (gI X 102) (N 14) 0).2.2.length; omega)
      have c0 : gI Z 112 0 = gI Y1 47 0 := r0.trans s0.symm
      have c1 : gI Z 112 1 = gI Y1 47 1 := r1.trans s1.symm
      have c2 : gI Z 112 2 = gI Y1 47 2 := r2.trans s2.symm
      have := law_ok (c42 := 0) (c0 := gI Y1 47 0) (c1 := gI Y1 47 1) (c2 := gI Y1 47 2) (c3 := 0) (r101 := 1) (r2 := gI Z 112 2) (r3 := gI Z 112 3) h hl lZ y3 fZ (Or.inl ⟨rfl, rfl, c2.symm⟩)
      rw [← c0, ← c1] at this
      exact this)
