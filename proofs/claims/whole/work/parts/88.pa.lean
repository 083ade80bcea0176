/-- more knots -/
theorem I_wrk_N {N N' : Nat → Nat} {X : gp_H} (h0 : N 0 ≤ N' 0) (h2 : N' 2 = N 2) (h : I_wrk N X) : I_wrk N' X := by
  unfold I_wrk at h ⊢
  rw [h2]
  refine ⟨h.1, h.2.1, fun w hw => ?_, h.2.2.2⟩
  obtain ⟨i, m, c, a, b⟩ := h.2.2.1 w hw
  exact ⟨i, m, c, by omega, b⟩
theorem I_hom_N {N N' : Nat → Nat} {S : gp_S} {X : gp_H} (h0 : N 0 ≤ N' 0) (h : I_hom N S X) : I_hom N' S X := by
  unfold I_hom at h ⊢
  refine ⟨h.1, fun j hj => ?_⟩
  obtain ⟨a, ⟨x, y, z, q, r⟩, b⟩ := h.2 j hj
  exact ⟨a, ⟨x, y, z, by omega, r⟩, b⟩
theorem I_fit_N {N N' : Nat → Nat} {X : gp_H} (h0 : N 0 ≤ N' 0) (h9 : N' 9 = N 9) (h10 : N 10 ≤ N' 10) (h : I_fit N X) : I_fit N' X := by
  unfold I_fit at h ⊢
  rw [h9]
  refine ⟨h.1, h.2.1, fun i hi => ?_, fun i => ?_⟩
  · obtain ⟨a, b, c, d, r1, r2, r3, r4, r5, r6, r7, r8, r9⟩ := h.2.2.1 i hi
    exact ⟨a, b, c, d, r1, r2, r3, r4, r5, by omega, r7, by omega, r9⟩
  · obtain ⟨d, r1, r2⟩ := h.2.2.2 i
    exact ⟨d, by omega, r2⟩
theorem shl_lt {n m : Nat} (h : n < m) (hm : m ≤ 20) : (1 : Int32) <<< (nI n &&& 31) < (1 : Int32) <<< (nI m &&& 31) := by
  have : ∀ m : Fin 21, ∀ n : Fin 21, n.1 < m.1 → (1 : Int32) <<< (nI n.1 &&& 31) < (1 : Int32) <<< (nI m.1 &&& 31) := by decide
  exact this ⟨m, by omega⟩ ⟨n, by omega⟩ h
theorem shl_le {n m : Nat} (h : n ≤ m) (hm : m ≤ 20) : (1 : Int32) <<< (nI n &&& 31) ≤ (1 : Int32) <<< (nI m &&& 31) := by
  rcases Nat.lt_or_eq_of_le h with h | h
  · exact Int32.le_of_lt (shl_lt h hm)
  · rw [h]; exact Int32.le_refl _
theorem I_sec_N {N N' : Nat → Nat} {X : gp_H} (h0 : N 0 ≤ N' 0) (hm : N' 0 ≤ 12) (h7 : N' 7 = N 7) (h : I_sec N X) : I_sec N' X := by
  unfold I_sec at h ⊢
  rw [h7]
  exact ⟨h.1, h.2.1, fun i hi => ⟨(h.2.2.1 i hi).1, Int32.lt_of_lt_of_le (h.2.2.1 i hi).2 (shl_le h0 (by omega))⟩, h.2.2.2⟩
theorem ltl {n k : Nat} {v : Int32} (hv : v = nI k) (hn : n ≤ 1000) (hk : k ≤ 1000) : nI n < v ↔ n < k := nI_lt_lit hv (by omega) (by omega)
theorem p_knot {E : gp_E} {N : Nat → Nat} {S : gp_S} {X : gp_H} (h : Inv N S X) : Ev E m_ga_knot 0 [(0, .ref 0)] [] X (0, 0) (gp_two E m_mo_knot [(0, .ref 55)]) := by
  have hL := h.lay
  obtain ⟨⟨k1, k2, k3⟩, q1, q2, q3, q4, q5, q6, q7, q8, q9⟩ := h.net
  refine b_ga_knot_0 hL ⟨fun c => ?_, fun c => ?_⟩
  · rw [k1] at c ⊢
    have hl : N 0 < 12 := (nI_lt_lit (k := 12) rfl (by omega) (by omega)).mp c
    refine ⟨_, S, rfl, ly_sI hL, b_mo_knot_0 (ly_sI hL) ⟨fun _ => ⟨?_, ?_⟩, fun z => ?_⟩⟩
    · exact congrArg (fun z => some (Value.int z)) ((nI_add_sub _).trans k2)
    · exact iv_get (fun i => if i = 0 then N 0 + 1 else N i) (X_sI (X_sI (X_0 h))) (fun hx => ⟨hx.1, ⟨⟨nI_s _, (congrArg (· + 1) k2).trans (nI_s _), hl⟩, q1, q2, fun p hp => by
        obtain ⟨i, j, a, b, r⟩ := q3 p hp
        exact ⟨i, j, Nat.lt_succ_of_lt a, Nat.lt_succ_of_lt b, r⟩, q4, q5, q6, q7, q8, q9.elim Or.inl (fun ⟨t, a, b⟩ => Or.inr ⟨t, Nat.lt_succ_of_lt a, b⟩)⟩, I_wrk_N (Nat.le_succ _) rfl (hx.2.2.1 rfl), (hx.2.2.2.1 rfl), (hx.2.2.2.2.1 rfl), I_hom_N (Nat.le_succ _) (hx.2.2.2.2.2.1 rfl), (hx.2.2.2.2.2.2.1 rfl), (hx.2.2.2.2.2.2.2.1 rfl), (hx.2.2.2.2.2.2.2.2.1 rfl), (hx.2.2.2.2.2.2.2.2.2.1 rfl), I_sec_N (Nat.le_succ _) hl rfl (hx.2.2.2.2.2.2.2.2.2.2.1 rfl), (hx.2.2.2.2.2.2.2.2.2.2.2.1 rfl), (hx.2.2.2.2.2.2.2.2.2.2.2.2.1 rfl), (hx.2.2.2.2.2.2.2.2.2.2.2.2.2.1 rfl), I_fit_N (Nat.le_succ _) rfl (Nat.le_refl _) (hx.2.2.2.2.2.2.2.2.2.2.2.2.2.2.1 rfl), (hx.2.2.2.2.2.2.2.2.2.2.2.2.2.2.2.1 rfl), (hx.2.2.2.2.2.2.2.2.2.2.2.2.2.2.2.2.1 rfl), (hx.2.2.2.2.2.2.2.2.2.2.2.2.2.2.2.2.2.1 rfl), (hx.2.2.2.2.2.2.2.2.2.2.2.2.2.2.2.2.2.2.1 rfl), (hx.2.2.2.2.2.2.2.2.2.2.2.2.2.2.2.2.2.2.2.1 rfl), (hx.2.2.2.2.2.2.2.2.2.2.2.2.2.2.2.2.2.2.2.2.1 rfl), (hx.2.2.2.2.2.2.2.2.2.2.2.2.2.2.2.2.2.2.2.2.2 rfl)⟩)
    · have z' : gI X 55 0 = 12 := z
      rw [k2] at z'
      exact absurd ((nI_eq_lit (k := 12) rfl (by omega) (by omega)).mp z') (by omega)
  · refine ⟨_, S, rfl, hL, b_mo_knot_0 hL ⟨fun z => ?_, fun _ => ⟨rfl, N, h⟩⟩⟩
    rw [k1] at c
    rw [k2] at z
    have h1 : ¬ N 0 < 12 := fun y => c ((nI_lt_lit (k := 12) rfl (by omega) (by omega)).mpr y)
    exact absurd ((nI_eq_lit (n := N 0) (k := 12) rfl (by omega) (by omega)).mpr (by omega)) z
theorem two_rows {f g f' g' : Nat → Int32} {n : Nat} {v : Int32} (h : ∀ i, f i = g i) (e1 : ∀ i, f' i = if i = n then v else f i) (e2 : ∀ i, g' i = if i = n then v else g i) (i : Nat) : f' i = g' i := by rw [e1, e2, h i]
theorem row_at {f f' : Nat → Int32} {n : Nat} {v : Int32} (e : ∀ i, f' i = if i = n then v else f i) : f' n = v := by rw [e, if_pos rfl]
theorem row_ne {f f' : Nat → Int32} {n i : Nat} {v : Int32} (e : ∀ i, f' i = if i = n then v else f i) (h : i ≠ n) : f' i = f i := by rw [e, if_neg h]
theorem I_wrk_add {N N' : Nat → Nat} {X X' : gp_H} {x1 x2 x3 : Int32} {i b d : Nat} (h : I_wrk N X) (h0 : N' 0 = N 0) (h2 : N' 2 = N 2 + 1) (hl : N 2 < 5) (hi : i < N 0) (e1 : x1 = nI i) (hb1 : 1 ≤ b) (hb : b ≤ 500) (eb : x2 = nI b) (hd : d ≤ 9999) (ed : x3 = nI d)
  (s1 : gI X' 1 9 = nI (N 2 + 1)) (s2 : gI X' 55 6 = nI (N 2 + 1)) (r8 : ∀ i, gI X' 8 i = if i = N 2 then x1 else gI X 8 i) (r9 : ∀ i, gI X' 9 i = if i = N 2 then x2 else gI X 9 i) (r10 : ∀ i, gI X' 10 i = if i = N 2 then x3 else gI X 10 i) (r11 : ∀ i, gI X' 11 i = if i = N 2 then 1 else gI X 11 i) (r60 : ∀ i, gI X' 60 i = if i = N 2 then x1 else gI X 60 i) (r61 : ∀ i, gI X' 61 i = if i = N 2 then x2 else gI X 61 i) (r62 : ∀ i, gI X' 62 i = if i = N 2 then x3 else gI X 62 i) (r63 : ∀ i, gI X' 63 i = if i = N 2 then 1 else gI X 63 i) : I_wrk N' X' := by
  obtain ⟨⟨w1, w2, w3⟩, q1, q2, q3⟩ := h
  unfold I_wrk
  rw [h0, h2]
  refine ⟨⟨s1, s2, hl⟩, fun i => ⟨two_rows (fun i => (q1 i).1) r8 r60 i, two_rows (fun i => (q1 i).2.1) r9 r61 i, two_rows (fun i => (q1 i).2.2.1) r10 r62 i, two_rows (fun i => (q1 i).2.2.2) r11 r63 i⟩, fun w hw => ?_, fun w => ?_⟩
  · by_cases z : w = N 2
    · subst z
      exact ⟨i, b, d, hi, (row_at r60).trans e1, hb1, hb, (row_at r61).trans eb, hd, (row_at r62).trans ed⟩
    · rw [row_ne r60 z, row_ne r61 z, row_ne r62 z]
      exact q2 w (by omega)
  · by_cases z : w = N 2
    · subst z; exact Or.inr (row_at r63)
    · rw [row_ne r63 z]; exact q3 w
theorem I_fit_add {N N' : Nat → Nat} {X X' : gp_H} {x1 x2 x3 : Int32} {i b d : Nat} (h : I_fit N X) (h0 : N' 0 = N 0) (h10 : N' 10 = N 10) (h9 : N' 9 = N 9 + 1) (hl : N 9 < 8) (hi : i < N 0) (e1 : x3 = nI i) (hb1 : 1 ≤ b) (hb : b ≤ 10) (eb : x2 = nI b) (hd : d ≤ 15) (ed : x1 = nI d)
  (s1 : gI X' 31 0 = nI (N 9 + 1)) (s2 : gI X' 55 45 = nI (N 9 + 1)) (r8 : ∀ i, gI X' 32 i = if i = N 9 then x1 else gI X 32 i) (r9 : ∀ i, gI X' 33 i = if i = N 9 then x2 else gI X 33 i) (r10 : ∀ i, gI X' 34 i = if i = N 9 then x3 else gI X 34 i) (r11 : ∀ i, gI X' 35 i = gI X 35 i) (r60 : ∀ i, gI X' 89 i = if i = N 9 then x1 else gI X 89 i) (r61 : ∀ i, gI X' 90 i = if i = N 9 then x2 else gI X 90 i) (r62 : ∀ i, gI X' 91 i = if i = N 9 then x3 else gI X 91 i) (r63 : ∀ i, gI X' 92 i = gI X 92 i) : I_fit N' X' := by
  obtain ⟨⟨w1, w2, w3⟩, q1, q2, q3⟩ := h
  unfold I_fit
  rw [h0, h9, h10]
  refine ⟨⟨s1, s2, hl⟩, fun i => ⟨two_rows (fun i => (q1 i).1) r8 r60 i, two_rows (fun i => (q1 i).2.1) r9 r61 i, two_rows (fun i => (q1 i).2.2.1) r10 r62 i, by rw [r11, r63]; exact (q1 i).2.2.2⟩, fun w hw => ?_, fun w => by rw [r63]; exact q3 w⟩
  by_cases z : w = N 9
  · subst z
    obtain ⟨f, f1, f2⟩ := q3 (N 9)
    exact ⟨d, b, i, f, hd, (row_at r60).trans ed, hb1, hb, (row_at r61).trans eb, hi, (row_at r62).trans e1, f1, (r63 _).trans f2⟩
  · rw [row_ne r60 z, row_ne r61 z, row_ne r62 z, r63]
    exact q2 w (by omega)
theorem iw1 {v M : Int32} {n : Nat} (hM : M = nI n) (hn : n ≤ 10000) (h : iw v 1 M = true) : ∃ b, 1 ≤ b ∧ b ≤ n ∧ v = nI b := by
  obtain ⟨g1, g2⟩ := iw_ab h
  obtain ⟨b, hb, eb⟩ := nI_of2 (n := n) (M := M) (by rw [hM]; exact nI_toInt (by omega)) (fun z => by have := Int32.lt_of_lt_of_le z (Int32.le_trans (by decide : (0 : Int32) ≤ 1) g1); exact absurd this (Int32.lt_irrefl)) g2
  refine ⟨b, ?_, hb, eb⟩
  rw [eb] at g1
  exact (nI_leI (a := 1) (by omega) (by omega)).mp g1
theorem p_works {E : gp_E} {N : Nat → Nat} {S : gp_S} {X : gp_H} (h : Inv N S X) (x1 x2 x3 : Int32) : Ev E m_ga_works 0 [(0, .ref 0), (1, .int x1), (2, .int x2), (3, .int x3)] [] X (0, 0) (gp_two E m_mo_works [(0, .ref 55), (1, .int x1), (2, .int x2), (3, .int x3)]) := by
  have hL := h.lay
  obtain ⟨k1, k2, k3⟩ := h.net.1
  obtain ⟨w1, w2, w3⟩ := h.wrk.1
  refine b_ga_works_0 hL ?_
  rw [k1, w1]
  have R := fun {X1 : gp_H} {Q} => b_mo_works_0 (E := E) (S := S) (X := X1) (x1 := x1) (x2 := x2) (x3 := x3) (Q := Q)
  refine ⟨fun c1 => ⟨fun c2 => ?_, fun c2 => ⟨fun c3 => ⟨fun c4 => ?_, fun c4 => ?_⟩, fun c3 => ?_⟩⟩, fun c1 => ?_⟩
  · exact ⟨_, S, rfl, hL, R hL (by rw [k2, w2]; exact ⟨fun _ => ⟨fun _ => ⟨rfl, N, h⟩, fun z => bnf c2 z⟩, fun z => bne c1 z⟩)⟩
  · have hl : N 2 < 5 := (nI_lt_lit (k := 5) rfl (by omega) (by omega)).mp c4
    refine wh_i (b_ne_addWork_0 hL ⟨?_, rfl, rfl⟩) (ly_sI (ly_sI (ly_sI (ly_sI (ly_sI hL))))) ?_
    · rw [w1]; exact vin hl (by omega)
    rw [w1, nI_c (by omega)]
    refine ⟨_, S, rfl, (ly_sI (ly_sI (ly_sI (ly_sI (ly_sI hL))))), R (ly_sI (ly_sI (ly_sI (ly_sI (ly_sI hL))))) ?_⟩
    simp only [gI_sI, Nat.reduceEqDiff, false_and, true_and, and_false, and_true, ite_false, ite_true, ↓reduceIte, reduceCtorEq, w2, k2, nI_c (show N 2 < 2147483648 by omega)]
    refine ⟨fun _ => ⟨fun z => bne c2 z, fun _ => ⟨fun _ => ⟨fun _ => ⟨vin hl (by omega), by rw [nI_add_sub], ?_⟩, fun z => absurd ((nI_eq_lit (k := 5) rfl (by omega) (by omega)).mp z) (by omega)⟩, fun z => bne c3 z⟩⟩, fun z => bne c1 z⟩
    obtain ⟨i, hi, e1⟩ := iw_nI (by omega) c1
    obtain ⟨b, hb1, hb, eb⟩ := iw1 (n := 500) rfl (by omega) c2
    obtain ⟨d, hd, ed⟩ := iw_lt (n := 9999) 9999 (by decide) c3
    exact iv_get (fun i => if i = 2 then N 2 + 1 else N i) (X_sI (X_sI (X_sI (X_sI (X_sI (X_sI (X_sI (X_sI (X_sI (X_sI (X_0 h))))))))))) (fun hx => ⟨hx.1, (hx.2.1 rfl), I_wrk_add h.wrk rfl rfl hl hi e1 hb1 hb eb hd ed (by simp only [gI_sI, Nat.reduceEqDiff, false_and, true_and, and_false, and_true, ite_false, ite_true, ↓reduceIte, reduceCtorEq, nI_s]) (by simp only [gI_sI, Nat.reduceEqDiff, false_and, true_and, and_false, and_true, ite_false, ite_true, ↓reduceIte, reduceCtorEq, nI_s]) (fun i => by simp only [gI_sI, Nat.reduceEqDiff, false_and, true_and, and_false, and_true, ite_false, ite_true, ↓reduceIte, reduceCtorEq]) (fun i => by simp only [gI_sI, Nat.reduceEqDiff, false_and, true_and, and_false, and_true, ite_false, ite_true, ↓reduceIte, reduceCtorEq]) (fun i => by simp only [gI_sI, Nat.reduceEqDiff, false_and, true_and, and_false, and_true, ite_false, ite_true, ↓reduceIte, reduceCtorEq]) (fun i => by simp only [gI_sI, Nat.reduceEqDiff, false_and, true_and, and_false, and_true, ite_false, ite_true, ↓reduceIte, reduceCtorEq]) (fun i => by simp only [gI_sI, Nat.reduceEqDiff, false_and, true_and, and_false, and_true, ite_false, ite_true, ↓reduceIte, reduceCtorEq]) (fun i => by simp only [gI_sI, Nat.reduceEqDiff, false_and, true_and, and_false, and_true, ite_false, ite_true, ↓reduceIte, reduceCtorEq]) (fun i => by simp only [gI_sI, Nat.reduceEqDiff, false_and, true_and, and_false, and_true, ite_false, ite_true, ↓reduceIte, reduceCtorEq]) (fun i => by simp only [gI_sI, Nat.reduceEqDiff, false_and, true_and, and_false, and_true, ite_false, ite_true, ↓reduceIte, reduceCtorEq]), (hx.2.2.2.1 rfl), (hx.2.2.2.2.1 rfl), (hx.2.2.2.2.2.1 rfl), (hx.2.2.2.2.2.2.1 rfl), (hx.2.2.2.2.2.2.2.1 rfl), (hx.2.2.2.2.2.2.2.2.1 rfl), (hx.2.2.2.2.2.2.2.2.2.1 rfl), (hx.2.2.2.2.2.2.2.2.2.2.1 rfl), (hx.2.2.2.2.2.2.2.2.2.2.2.1 rfl), (hx.2.2.2.2.2.2.2.2.2.2.2.2.1 rfl), (hx.2.2.2.2.2.2.2.2.2.2.2.2.2.1 rfl), (hx.2.2.2.2.2.2.2.2.2.2.2.2.2.2.1 rfl), (hx.2.2.2.2.2.2.2.2.2.2.2.2.2.2.2.1 rfl), (hx.2.2.2.2.2.2.2.2.2.2.2.2.2.2.2.2.1 rfl), (hx.2.2.2.2.2.2.2.2.2.2.2.2.2.2.2.2.2.1 rfl), (hx.2.2.2.2.2.2.2.2.2.2.2.2.2.2.2.2.2.2.1 rfl), (hx.2.2.2.2.2.2.2.2.2.2.2.2.2.2.2.2.2.2.2.1 rfl), (hx.2.2.2.2.2.2.2.2.2.2.2.2.2.2.2.2.2.2.2.2.1 rfl), (hx.2.2.2.2.2.2.2.2.2.2.2.2.2.2.2.2.2.2.2.2.2 rfl)⟩)
  · have hl : ¬ N 2 < 5 := fun y => c4 ((nI_lt_lit (k := 5) rfl (by omega) (by omega)).mpr y)
    exact ⟨_, S, rfl, hL, R hL (by rw [k2, w2]; exact ⟨fun _ => ⟨fun z => bne c2 z, fun _ => ⟨fun _ => ⟨fun z => absurd ((nI_eq_lit (n := N 2) (k := 5) rfl (by omega) (by omega)).mpr (by omega)) z, fun _ => ⟨rfl, N, h⟩⟩, fun z => bne c3 z⟩⟩, fun z => bne c1 z⟩)⟩
  · exact ⟨_, S, rfl, hL, R hL (by rw [k2, w2]; exact ⟨fun _ => ⟨fun z => bne c2 z, fun _ => ⟨fun z => bnf c3 z, fun _ => ⟨rfl, N, h⟩⟩⟩, fun z => bne c1 z⟩)⟩
  · exact ⟨_, S, rfl, hL, R hL (by rw [k2, w2]; exact ⟨fun z => bnf c1 z, fun _ => ⟨rfl, N, h⟩⟩)⟩
theorem p_fitter {E : gp_E} {N : Nat → Nat} {S : gp_S} {X : gp_H} (h : Inv N S X) (x1 x2 x3 : Int32) : Ev E m_ga_fitter 0 [(0, .ref 0), (1, .int x1), (2, .int x2), (3, .int x3)] [] X (0, 0) (gp_two E m_mo_fitter [(0, .ref 55), (1, .int x1), (2, .int x2), (3, .int x3)]) := by
  have hL := h.lay
  obtain ⟨k1, k2, k3⟩ := h.net.1
  obtain ⟨w1, w2, w3⟩ := h.fit.1
  refine b_ga_fitter_0 hL ?_
  rw [k1, w1]
  have R := fun {X1 : gp_H} {Q} => b_mo_fitter_0 (E := E) (S := S) (X := X1) (x1 := x1) (x2 := x2) (x3 := x3) (Q := Q)
  refine ⟨fun c1 => ⟨fun c2 => ?_, fun c2 => ⟨fun c3 => ⟨fun c4 => ?_, fun c4 => ?_⟩, fun c3 => ?_⟩⟩, fun c1 => ?_⟩
  · exact ⟨_, S, rfl, hL, R hL (by rw [k2, w2]; exact ⟨fun _ => ⟨fun _ => ⟨rfl, N, h⟩, fun z => bnf c2 z⟩, fun z => bne c1 z⟩)⟩
  · have hl : N 9 < 8 := (nI_lt_lit (k := 8) rfl (by omega) (by omega)).mp c4
    refine wh_i (b_du_addFitter_0 hL ⟨?_, rfl, rfl⟩) (ly_sI (ly_sI (ly_sI (ly_sI hL)))) ?_
    · rw [w1]; exact vin hl (by omega)
    rw [w1, nI_c (by omega)]
    refine ⟨_, S, rfl, (ly_sI (ly_sI (ly_sI (ly_sI hL)))), R (ly_sI (ly_sI (ly_sI (ly_sI hL)))) ?_⟩
    simp only [gI_sI, Nat.reduceEqDiff, false_and, true_and, and_false, and_true, ite_false, ite_true, ↓reduceIte, reduceCtorEq, w2, k2, nI_c (show N 9 < 2147483648 by omega)]
    refine ⟨fun _ => ⟨fun z => bne c2 z, fun _ => ⟨fun _ => ⟨fun _ => ⟨vin hl (by omega), by rw [nI_add_sub], ?_⟩, fun z => absurd ((nI_eq_lit (k := 8) rfl (by omega) (by omega)).mp z) (by omega)⟩, fun z => bne c3 z⟩⟩, fun z => bne c1 z⟩
    obtain ⟨i, hi, e1⟩ := iw_nI (by omega) c1
    obtain ⟨b, hb1, hb, eb⟩ := iw1 (n := 10) rfl (by omega) c3
    obtain ⟨d, hd, ed⟩ := iw_lt (n := 15) 15 (by decide) c2
    exact iv_get (fun i => if i = 9 then N 9 + 1 else N i) (X_sI (X_sI (X_sI (X_sI (X_sI (X_sI (X_sI (X_sI (X_0 h))))))))) (fun hx => ⟨hx.1, (hx.2.1 rfl), (hx.2.2.1 rfl), (hx.2.2.2.1 rfl), (hx.2.2.2.2.1 rfl), (hx.2.2.2.2.2.1 rfl), (hx.2.2.2.2.2.2.1 rfl), (hx.2.2.2.2.2.2.2.1 rfl), (hx.2.2.2.2.2.2.2.2.1 rfl), (hx.2.2.2.2.2.2.2.2.2.1 rfl), (hx.2.2.2.2.2.2.2.2.2.2.1 rfl), (hx.2.2.2.2.2.2.2.2.2.2.2.1 rfl), (hx.2.2.2.2.2.2.2.2.2.2.2.2.1 rfl), (hx.2.2.2.2.2.2.2.2.2.2.2.2.2.1 rfl), I_fit_add h.fit rfl rfl rfl hl hi e1 hb1 hb eb hd ed (by simp only [gI_sI, Nat.reduceEqDiff, false_and, true_and, and_false, and_true, ite_false, ite_true, ↓reduceIte, reduceCtorEq, nI_s]) (by simp only [gI_sI, Nat.reduceEqDiff, false_and, true_and, and_false, and_true, ite_false, ite_true, ↓reduceIte, reduceCtorEq, nI_s]) (fun i => by simp only [gI_sI, Nat.reduceEqDiff, false_and, true_and, and_false, and_true, ite_false, ite_true, ↓reduceIte, reduceCtorEq]) (fun i => by simp only [gI_sI, Nat.reduceEqDiff, false_and, true_and, and_false, and_true, ite_false, ite_true, ↓reduceIte, reduceCtorEq]) (fun i => by simp only [gI_sI, Nat.reduceEqDiff, false_and, true_and, and_false, and_true, ite_false, ite_true, ↓reduceIte, reduceCtorEq]) (fun i => by simp only [gI_sI, Nat.reduceEqDiff, false_and, true_and, and_false, and_true, ite_false, ite_true, ↓reduceIte, reduceCtorEq]) (fun i => by simp only [gI_sI, Nat.reduceEqDiff, false_and, true_and, and_false, and_true, ite_false, ite_true, ↓reduceIte, reduceCtorEq]) (fun i => by simp only [gI_sI, Nat.reduceEqDiff, false_and, true_and, and_false, and_true, ite_false, ite_true, ↓reduceIte, reduceCtorEq]) (fun i => by simp only [gI_sI, Nat.reduceEqDiff, false_and, true_and, and_false, and_true, ite_false, ite_true, ↓reduceIte, reduceCtorEq]) (fun i => by simp only [gI_sI, Nat.reduceEqDiff, false_and, true_and, and_false, and_true, ite_false, ite_true, ↓reduceIte, reduceCtorEq]), (hx.2.2.2.2.2.2.2.2.2.2.2.2.2.2.2.1 rfl), (hx.2.2.2.2.2.2.2.2.2.2.2.2.2.2.2.2.1 rfl), (hx.2.2.2.2.2.2.2.2.2.2.2.2.2.2.2.2.2.1 rfl), (hx.2.2.2.2.2.2.2.2.2.2.2.2.2.2.2.2.2.2.1 rfl), (hx.2.2.2.2.2.2.2.2.2.2.2.2.2.2.2.2.2.2.2.1 rfl), (hx.2.2.2.2.2.2.2.2.2.2.2.2.2.2.2.2.2.2.2.2.1 rfl), (hx.2.2.2.2.2.2.2.2.2.2.2.2.2.2.2.2.2.2.2.2.2 rfl)⟩)
  · have hl : ¬ N 9 < 8 := fun y => c4 ((nI_lt_lit (k := 8) rfl (by omega) (by omega)).mpr y)
    exact ⟨_, S, rfl, hL, R hL (by rw [k2, w2]; exact ⟨fun _ => ⟨fun z => bne c2 z, fun _ => ⟨fun _ => ⟨fun z => absurd ((nI_eq_lit (n := N 9) (k := 8) rfl (by omega) (by omega)).mpr (by omega)) z, fun _ => ⟨rfl, N, h⟩⟩, fun z => bne c3 z⟩⟩, fun z => bne c1 z⟩)⟩
  · exact ⟨_, S, rfl, hL, R hL (by rw [k2, w2]; exact ⟨fun _ => ⟨fun z => bne c2 z, fun _ => ⟨fun z => bnf c3 z, fun _ => ⟨rfl, N, h⟩⟩⟩, fun z => bne c1 z⟩)⟩
  · exact ⟨_, S, rfl, hL, R hL (by rw [k2, w2]; exact ⟨fun z => bnf c1 z, fun _ => ⟨rfl, N, h⟩⟩)⟩
