theorem p_lost {E : gp_E} {N : Nat → Nat} {S : gp_S} {X : gp_H} (h : Inv N S X) (x1 : Int32) : Ev E m_ga_lost 0 [(0, .ref 0), (1, .int x1)] [] X (0, 0) (gp_two E m_mo_lost [(0, .ref 55), (1, .int x1)]) := by
  have hL := h.lay
  obtain ⟨⟨n1, n2, n3⟩, ⟨k1, k2, k3⟩, q1, q2, q3, q4, q5, q6, q7, q8⟩ := h.net
  have R := fun {Y : gp_H} (lY : Lay S Y) (gY : Rf X Y) {Q} => show _ from by
    have := b_mo_lost_0 (E := E) (x1 := x1) (Q := Q) lY
    rw [gY 55 1 rfl, k2, gY 58 _ rfl, gY 59 _ rfl] at this
    exact this
  refine b_ga_lost_0 hL ?_
  rw [k1]
  refine ⟨fun c1 => ?_, fun c1 => ⟨_, S, rfl, hL, R hL (rf_0 X) ⟨fun z => bnf c1 z, fun _ => ⟨rfl, N, h⟩⟩⟩⟩
  obtain ⟨p, hp, rfl⟩ := iw_nI (by omega) c1
  have vi : vp_in (nI p) 20 := vin (by omega) (by omega)
  have cl : Int32.toNatClampNeg (nI p) = p := nI_c (by omega)
  rw [cl] at R ⊢
  rw [(q1 p).2.2.1, (q1 p).2.2.2]
  refine ⟨vi, fun c58 => ?_, fun c3 => ⟨_, S, rfl, hL, R hL (rf_0 X) ⟨fun _ => ⟨vi, fun z => absurd c3 z, fun _ => ⟨rfl, N, h⟩⟩, fun z => bne c1 z⟩⟩⟩
  refine wh_n (s_ne_joinOpen (n := N 1) (ly_sI (ly_sI hL)) k1 k3 (fun q hq => by
      obtain ⟨i, j, a, b, c, d, e⟩ := q2 q hq
      exact ⟨i, j, by omega, by omega, c, (q1 q).1.trans d, (q1 q).2.1.trans e⟩)) (ly_wI (ly_sI (ly_sI hL))) ⟨_, S, rfl, ly_wI (ly_sI (ly_sI hL)), ?_⟩
  have gY : Rf X (gp_wI (gp_sI (gp_sI X 4 p 0) 5 p 1) (fun a k => if a = 7 ∧ k < 12 then nearF (gI (gp_sI (gp_sI X 4 p 0) 5 p 1) 2) (gI (gp_sI (gp_sI X 4 p 0) 5 p 1) 3) (gI (gp_sI (gp_sI X 4 p 0) 5 p 1) 5) k (N 1) else gI (gp_sI (gp_sI X 4 p 0) 5 p 1) a k)) := rg_w (rg_sI (rg_sI (rf_0 X))) (fun a k ha => if_neg (fun z => by rw [z.1] at ha; exact absurd ha (by decide)))
  have iv : ∃ M, Inv M S (gp_sI (gp_sI (gp_wI (gp_sI (gp_sI X 4 p 0) 5 p 1) (fun a k => if a = 7 ∧ k < 12 then nearF (gI (gp_sI (gp_sI X 4 p 0) 5 p 1) 2) (gI (gp_sI (gp_sI X 4 p 0) 5 p 1) 3) (gI (gp_sI (gp_sI X 4 p 0) 5 p 1) 5) k (N 1) else gI (gp_sI (gp_sI X 4 p 0) 5 p 1) a k)) 58 p 0) 59 p 1) := by
    refine vl_end (p := p) (v := fun k => if k = p then 0 else gI X 58 k) (t0 := 1) (G := gp_up (gp_up (fun a k => if a = 7 ∧ k < 12 then nearF (gI (gp_sI (gp_sI X 4 p 0) 5 p 1) 2) (gI (gp_sI (gp_sI X 4 p 0) 5 p 1) 3) (gI (gp_sI (gp_sI X 4 p 0) 5 p 1) 5) k (N 1) else gI (gp_sI (gp_sI X 4 p 0) 5 p 1) a k) 58 p 0) 59 p 1) h hp (Or.inr rfl) (fun q => ?_) (fun q hq c => ?_) rfl (fun a k d4 d5 d7 d58 d59 => ?_) (fun k => ?_) (fun k => ?_) (fun k => ?_) (fun k => ?_) (fun k hk => ?_)
    · show is01 (if q = p then 0 else gI X 58 q)
      split
      · exact Or.inl rfl
      · exact (q3 q).1
    · by_cases z : q = p
      · exact Or.inl ⟨z, rfl⟩
      · have c' : (if q = p then 0 else gI X 58 q) = 0 := c
        rw [if_neg z] at c'
        exact Or.inr ⟨z, q4 q hq c'⟩
    · show (if a = 59 ∧ k = p then 1 else if a = 58 ∧ k = p then 0 else if a = 7 ∧ k < 12 then _ else if a = 5 ∧ k = p then 1 else if a = 4 ∧ k = p then 0 else gI X a k) = _
      rw [if_neg (fun z => d59 z.1), if_neg (fun z => d58 z.1), if_neg (fun z => d7 z.1), if_neg (fun z => d5 z.1), if_neg (fun z => d4 z.1)]
    · show (if 4 = 4 ∧ k = p then 0 else gI X 4 k) = if k = p then 0 else gI X 58 k
      by_cases z : k = p
      · rw [if_pos ⟨rfl, z⟩, if_pos z]
      · rw [if_neg (fun y => z y.2), if_neg z, (q1 k).2.2.1]
    · show (if 58 = 58 ∧ k = p then 0 else gI X 58 k) = if k = p then 0 else gI X 58 k
      by_cases z : k = p
      · rw [if_pos ⟨rfl, z⟩, if_pos z]
      · rw [if_neg (fun y => z y.2), if_neg z]
    · show (if 5 = 5 ∧ k = p then 1 else gI X 5 k) = _
      by_cases z : k = p
      · rw [if_pos ⟨rfl, z⟩, if_pos z]
      · rw [if_neg (fun y => z y.2), if_neg z, (q1 k).2.2.2]
    · show (if 59 = 59 ∧ k = p then 1 else gI X 59 k) = _
      by_cases z : k = p
      · rw [if_pos ⟨rfl, z⟩, if_pos z]
      · rw [if_neg (fun y => z y.2), if_neg z]
    · show (if 7 = 7 ∧ k < 12 then _ else _) = _
      rw [if_pos ⟨rfl, hk⟩]
      exact near_cg (N 1) (fun q hq => ⟨(q1 q).1, (q1 q).2.1, by
        show (if 5 = 5 ∧ q = p then 1 else gI X 5 q) = 0 ↔ (if q = p then 1 else gI X 59 q) = 0
        by_cases z : q = p
        · rw [if_pos ⟨rfl, z⟩, if_pos z]
        · rw [if_neg (fun y => z y.2), if_neg z, (q1 q).2.2.2]⟩)
  have fin : ∀ w : Int32, bz (!decide (gI X 59 p = 0)) = w → Ev E m_mo_lost 42 [(0, .ref 55), (1, .int (nI p))] [.int w] (gp_wI (gp_sI (gp_sI X 4 p 0) 5 p 1) (fun a k => if a = 7 ∧ k < 12 then nearF (gI (gp_sI (gp_sI X 4 p 0) 5 p 1) 2) (gI (gp_sI (gp_sI X 4 p 0) 5 p 1) 3) (gI (gp_sI (gp_sI X 4 p 0) 5 p 1) 5) k (N 1) else gI (gp_sI (gp_sI X 4 p 0) 5 p 1) a k)) (0, 0) (fun r2 X2 => r2 = some (.int (bz (!decide (gI X 59 p = 0)))) ∧ ∃ N, Inv N S X2) := by
    intro w ew
    refine b_mo_lost_42 (ly_wI (ly_sI (ly_sI hL))) ⟨vi, by rw [ew], ?_⟩
    rw [cl]
    exact iv
  exact R (ly_wI (ly_sI (ly_sI hL))) gY ⟨fun _ => ⟨vi, fun _ => ⟨fun z => fin 0 (by rw [decide_eq_true z]; rfl), fun z => fin 1 (by rw [decide_eq_false z]; rfl)⟩, fun z => absurd z c58⟩, fun z => bne c1 z⟩
theorem I_net_add {N N' : Nat → Nat} {X X' : gp_H} {x1 x2 v : Int32} {i j : Nat} (h : I_net N X) (h0 : N' 0 = N 0) (h1 : N' 1 = N 1 + 1) (hl : N 1 < 20) (hi : i < N 0) (hj : j < N 0) (ne : i ≠ j) (e1 : x1 = nI i) (e2 : x2 = nI j) (hv : is01 v) (s00 : gI X' 1 0 = gI X 1 0) (s50 : gI X' 55 0 = gI X 55 0) (s1 : gI X' 1 1 = nI (N 1 + 1)) (s2 : gI X' 55 1 = nI (N 1 + 1)) (s3 : gI X' 1 8 = gI X 1 8) (s4 : gI X' 55 11 = gI X 55 11)
  (r2 : ∀ k, gI X' 2 k = if k = N 1 then x1 else gI X 2 k) (r3 : ∀ k, gI X' 3 k = if k = N 1 then x2 else gI X 3 k) (r4 : ∀ k, gI X' 4 k = if k = N 1 then v else gI X 4 k) (r5 : ∀ k, gI X' 5 k = if k = N 1 then 1 else gI X 5 k) (r56 : ∀ k, gI X' 56 k = if k = N 1 then x1 else gI X 56 k) (r57 : ∀ k, gI X' 57 k = if k = N 1 then x2 else gI X 57 k) (r58 : ∀ k, gI X' 58 k = if k = N 1 then v else gI X 58 k) (r59 : ∀ k, gI X' 59 k = if k = N 1 then 1 else gI X 59 k)
  (r6 : ∀ k, gI X' 6 k = if k = j then gI X 6 j ||| ((1 : Int32) <<< (nI i &&& 31)) else if k = i then gI X 6 i ||| ((1 : Int32) <<< (nI j &&& 31)) else gI X 6 k) (r7 : ∀ k, gI X' 7 k = if k = j then gI X 7 j ||| ((1 : Int32) <<< (nI i &&& 31)) else if k = i then gI X 7 i ||| ((1 : Int32) <<< (nI j &&& 31)) else gI X 7 k) : I_net N' X' := by
  obtain ⟨⟨w1, w2, w3⟩, k1, q1, q2, q3, q4, q5, q6, q7, q8⟩ := h
  have nw : ∀ (o o' : Nat → Int32) (f g : Nat → Int32), (∀ p, p < N 1 → (o' p = 0 ↔ o p = 0)) → ¬ o' (N 1) = 0 → (∀ k, k < 12 → f k = nearF (gI X 56) (gI X 57) o k (N 1)) → (∀ k, g k = if k = j then f j ||| ((1 : Int32) <<< (nI i &&& 31)) else if k = i then f i ||| ((1 : Int32) <<< (nI j &&& 31)) else f k) → ∀ k, k < 12 → g k = nearF (gI X' 56) (gI X' 57) o' k (N 1 + 1) := by
    intro o o' f g ho hn hf hg k hk
    have n1 : nI i = nI k ↔ i = k := nI_eq (by omega) (by omega)
    have n2 : nI j = nI k ↔ j = k := nI_eq (by omega) (by omega)
    rw [nearF, if_neg hn, near_cg (a' := gI X 56) (b' := gI X 57) (o' := o) (N 1) (fun p hp => ⟨row_ne r56 (by omega), row_ne r57 (by omega), ho p hp⟩), row_at r56, row_at r57, e1, e2, ← hf k hk, hg k]
    by_cases z1 : k = j
    · rw [if_pos z1, if_neg (fun z => ne ((n1.mp z).trans z1)), if_pos (n2.mpr z1.symm), Int32.zero_or, z1]
    · rw [if_neg z1]
      by_cases z2 : k = i
      · rw [if_pos z2, if_pos (n1.mpr z2.symm), if_neg (fun z => z1 (n2.mp z).symm), Int32.or_zero, z2]
      · rw [if_neg z2, if_neg (fun z => z2 (n1.mp z).symm), if_neg (fun z => z1 (n2.mp z).symm), Int32.or_zero, Int32.or_zero]
  unfold I_net
  rw [h0, h1, s00, s50, s3, s4]
  refine ⟨⟨w1, w2, w3⟩, ⟨s1, s2, hl⟩, fun p => ⟨two_rows (fun i => (q1 i).1) r2 r56 p, two_rows (fun i => (q1 i).2.1) r3 r57 p, two_rows (fun i => (q1 i).2.2.1) r4 r58 p, two_rows (fun i => (q1 i).2.2.2) r5 r59 p⟩, fun p hp => ?_, fun p => ?_, fun p hp c => ?_, nw (fun _ => 1) (fun _ => 1) (gI X 6) (gI X' 6) (fun _ _ => Iff.rfl) (by decide) q5 r6, nw (gI X 59) (gI X' 59) (gI X 7) (gI X' 7) (fun p hp => by rw [row_ne r59 (by omega)]) (by rw [row_at r59]; decide) q6 r7, q7, q8⟩
  · by_cases z : p = N 1
    · subst z
      exact ⟨i, j, hi, hj, ne, (row_at r56).trans e1, (row_at r57).trans e2⟩
    · rw [row_ne r56 z, row_ne r57 z]
      exact q2 p (by omega)
  · by_cases z : p = N 1
    · subst z
      rw [row_at r58, row_at r59]
      exact ⟨hv, Or.inr rfl⟩
    · rw [row_ne r58 z, row_ne r59 z]
      exact q3 p
  · by_cases z : p = N 1
    · subst z; exact row_at r59
    · rw [row_ne r58 z] at c
      rw [row_ne r59 z]
      exact q4 p (by omega) c
theorem iv_y {N : Nat → Nat} {S : gp_S} {X X' : gp_H} (W : List (Nat × Nat)) (H : Bool) (N' : Nat → Nat) (h : Inv N S X) (l : Lay S X') (hf : ∀ a k, off W a k = true → (H = false ∨ ∀ j, j < S.1 → a ≠ S.2.2.1 j) → gI X' a k = gI X a k) (g : InvX (fun i => W.all (fun q => fr i q.1 q.2) && (!H || !(i == 5 || i == 7))) N S X' → Inv N' S X') (hW : W.all (fun q => Nat.blt q.1 114) = true := by rfl) : ∃ N, Inv N S X' := by
  refine ⟨N', g ?_⟩
  have := X_w (f := gI X') W H (X_0 h) hf hW
  simp only [Bool.true_and] at this
  exact invx_ext this l (fun _ _ => rfl)
def AP (X Y : gp_H) (n i j : Nat) (v : Int32) : Prop := (∀ a k, off [(1, 1), (2, 0), (3, 0), (4, 0), (5, 0), (6, 0), (7, 0)] a k = true → gI Y a k = gI X a k) ∧ gI Y 1 1 = nI (n + 1) ∧ (∀ k, gI Y 2 k = if k = n then nI i else gI X 2 k) ∧ (∀ k, gI Y 3 k = if k = n then nI j else gI X 3 k) ∧ (∀ k, gI Y 4 k = if k = n then v else gI X 4 k) ∧ (∀ k, gI Y 5 k = if k = n then 1 else gI X 5 k) ∧
  (∀ k, gI Y 6 k = if k = j then gI X 6 j ||| ((1 : Int32) <<< (nI i &&& 31)) else if k = i then gI X 6 i ||| ((1 : Int32) <<< (nI j &&& 31)) else gI X 6 k) ∧ (∀ k, gI Y 7 k = if k = j then gI X 7 j ||| ((1 : Int32) <<< (nI i &&& 31)) else if k = i then gI X 7 i ||| ((1 : Int32) <<< (nI j &&& 31)) else gI X 7 k)
theorem s_ne_addPipe {E : gp_E} {S : gp_S} {X : gp_H} (hX : Lay S X) {n i j : Nat} {v : Int32} (k1 : gI X 1 1 = nI n) (hl : n < 20) (hi : i < 12) (hj : j < 12) (ij : ¬ i = j) (hv : is01 v) : Ev E m_ne_addPipe 0 [(0, .ref 1), (1, .int (nI i)), (2, .int (nI j)), (3, .int v)] [] X (0, 0) (fun r Y => r = some (.int (nI n)) ∧ Lay S Y ∧ AP X Y n i j v) := by
  have nb : narrow .boolean (.int v) = .int v := by rcases hv with e | e <;> rw [e] <;> decide
  have ji : ¬ j = i := fun z => ij z.symm
  refine b_ne_addPipe_0 hX ⟨by rw [k1]; exact vin hl (by omega), nb, vin hi (by omega), vin hj (by omega), ?_⟩
  rw [k1, nI_c (k := n) (by omega), nI_c (k := i) (by omega), nI_c (k := j) (by omega)]
  refine ⟨rfl, (ly_sI (ly_sI (ly_sI (ly_sI (ly_sI (ly_sI (ly_sI (ly_sI (ly_sI hX))))))))), fun a k ho => ?_, ?_, fun k => ?_, fun k => ?_, fun k => ?_, fun k => ?_, fun k => ?_, fun k => ?_⟩
  · have d := off_sl ho (1, 1)
    have d2 := off_ne ho (2, 0)
    have d3 := off_ne ho (3, 0)
    have d4 := off_ne ho (4, 0)
    have d5 := off_ne ho (5, 0)
    have d6 := off_ne ho (6, 0)
    have d7 := off_ne ho (7, 0)
    simp only [gI_sI]
    rw [if_neg d, if_neg (fun q => d7 q.1), if_neg (fun q => d7 q.1), if_neg (fun q => d6 q.1), if_neg (fun q => d6 q.1), if_neg (fun q => d5 q.1), if_neg (fun q => d4 q.1), if_neg (fun q => d3 q.1), if_neg (fun q => d2 q.1)]
  all_goals simp only [gI_sI, Nat.reduceEqDiff, false_and, true_and, and_false, and_true, ite_false, ite_true, ↓reduceIte, reduceCtorEq, nI_s, ji]
theorem p_pipe {E : gp_E} {N : Nat → Nat} {S : gp_S} {X : gp_H} (h : Inv N S X) (x1 x2 x3 : Int32) : Ev E m_ga_pipe 0 [(0, .ref 0), (1, .int x1), (2, .int x2), (3, .int x3)] [] X (0, 0) (gp_two E m_mo_pipe [(0, .ref 55), (1, .int x1), (2, .int x2), (3, .int x3)]) := by
  have hL := h.lay
  obtain ⟨n1, n2, n3⟩ := h.net.1
  obtain ⟨k1, k2, k3⟩ := h.net.2.1
  have R := fun {Y : gp_H} (lY : Lay S Y) (gY : Rf X Y) {Q} => show _ from by
    have := b_mo_pipe_0 (E := E) (x1 := x1) (x2 := x2) (x3 := x3) (Q := Q) lY
    rw [gY 55 0 rfl, gY 55 1 rfl, n2, k2, nI_c (k := N 1) (by omega)] at this
    exact this
  refine b_ga_pipe_0 hL ?_
  rw [n1, k1, ifl_iw]
  refine ⟨fun c1 => ⟨_, S, rfl, hL, R hL (rf_0 X) ⟨fun _ => ⟨rfl, N, h⟩, fun z => bnf c1 z⟩⟩, fun c1 => ⟨fun c2 => ⟨fun c3 => ?_, fun c3 => ⟨fun c4 => ⟨fun c5 => ?_, fun c5 => ?_⟩, fun c4 => ?_⟩⟩, fun c2 => ?_⟩⟩
  · exact ⟨_, S, rfl, hL, R hL (rf_0 X) ⟨fun z => bne c1 z, fun _ => ⟨fun _ => ⟨fun _ => ⟨rfl, N, h⟩, fun z => absurd c3 z⟩, fun z => bne c2 z⟩⟩⟩
  · have hl : N 1 < 20 := (nI_lt_lit (k := 20) rfl (by omega) (by omega)).mp c5
    obtain ⟨i, hi, rfl⟩ := iw_nI (by omega) c1
    obtain ⟨j, hj, rfl⟩ := iw_nI (by omega) c2
    have ij : ¬ i = j := fun z => c3 (by rw [z])
    have key : ∀ v : Int32, is01 v → (x3 = 1 → v = 1) → (¬ x3 = 1 → v = 0) → ∃ Qz, Ev E m_ne_addPipe 0 [(0, .ref 1), (1, .int (nI i)), (2, .int (nI j)), (3, .int v)] [] X (0, 0) Qz ∧ ∀ r X', Qz r X' → ∃ w : Int32, r = some (.int w) ∧ Lay S X' ∧ gp_two E m_mo_pipe [(0, .ref 55), (1, .int (nI i)), (2, .int (nI j)), (3, .int x3)] (some (.int w)) X' := by
      intro v hv a1 a0
      have nb : narrow .boolean (.int v) = .int v := by rcases hv with e | e <;> rw [e] <;> decide
      refine ⟨_, s_ne_addPipe hL k1 hl (by omega) (by omega) ij hv, fun r Y ⟨hr, lY, aY⟩ => ⟨_, hr, lY, _, S, rfl, lY, ?_⟩⟩
      obtain ⟨y0, y1, y2, y3, y4, y5, y6, y7⟩ := aY
      have gY : Rf X Y := fun a k ha => y0 a k (by
        refine List.all_eq_true.mpr (fun q hq => ?_)
        have : (q.1 == a) = false := by
          refine beq_eq_false_iff_ne.mpr (fun e => ?_)
          rw [← e] at ha
          have : ∀ q : Nat × Nat, q ∈ [(1, 1), (2, 0), (3, 0), (4, 0), (5, 0), (6, 0), (7, 0)] → isR q.1 = false := by decide
          rw [this q hq] at ha
          exact absurd ha (by decide)
        rw [this]; rfl)
      have fin : ∀ t0 : Int32, t0 = v → Ev E m_mo_pipe 85 [(0, .ref 55), (1, .int (nI i)), (2, .int (nI j)), (3, .int x3)] [.int t0, .int (nI (N 1)), .ref 58] (gp_sI (gp_sI Y 56 (N 1) (nI i)) 57 (N 1) (nI j)) (0, 0) (fun r2 X2 => r2 = some (.int (nI (N 1))) ∧ ∃ N, Inv N S X2) := by
        intro t0 et
        subst et
        have e55 : gI (gp_sI (gp_sI Y 56 (N 1) (nI i)) 57 (N 1) (nI j)) 55 1 = nI (N 1) := (gY 55 1 rfl).trans k2
        refine b_mo_pipe_85 (ly_sI (ly_sI lY)) ⟨vin hl (by omega), nb, ?_⟩
        rw [e55, nI_c (k := N 1) (by omega)]
        refine ⟨vin hl (by omega), by rw [nI_add_sub], ?_⟩
        refine iv_y [(1, 1), (2, 0), (3, 0), (4, 0), (5, 0), (6, 0), (7, 0), (56, 0), (57, 0), (58, 0), (59, 0), (55, 1)] false (fun i => if i = 1 then N 1 + 1 else N i) h (ly_sI (ly_sI (ly_sI (ly_sI (ly_sI lY))))) (fun a k ho _ => ?_) (fun hx => ⟨hx.1, ?_, (hx.2.2.1 rfl), (hx.2.2.2.1 rfl), (hx.2.2.2.2.1 rfl), (hx.2.2.2.2.2.1 rfl), (hx.2.2.2.2.2.2.1 rfl), (hx.2.2.2.2.2.2.2.1 rfl), (hx.2.2.2.2.2.2.2.2.1 rfl), (hx.2.2.2.2.2.2.2.2.2.1 rfl), (hx.2.2.2.2.2.2.2.2.2.2.1 rfl), (hx.2.2.2.2.2.2.2.2.2.2.2.1 rfl), (hx.2.2.2.2.2.2.2.2.2.2.2.2.1 rfl), (hx.2.2.2.2.2.2.2.2.2.2.2.2.2.1 rfl), (hx.2.2.2.2.2.2.2.2.2.2.2.2.2.2.1 rfl), (hx.2.2.2.2.2.2.2.2.2.2.2.2.2.2.2.1 rfl), (hx.2.2.2.2.2.2.2.2.2.2.2.2.2.2.2.2.1 rfl), (hx.2.2.2.2.2.2.2.2.2.2.2.2.2.2.2.2.2.1 rfl), (hx.2.2.2.2.2.2.2.2.2.2.2.2.2.2.2.2.2.2.1 rfl), (hx.2.2.2.2.2.2.2.2.2.2.2.2.2.2.2.2.2.2.2.1 rfl), (hx.2.2.2.2.2.2.2.2.2.2.2.2.2.2.2.2.2.2.2.2.1 rfl), (hx.2.2.2.2.2.2.2.2.2.2.2.2.2.2.2.2.2.2.2.2.2 rfl)⟩)
        · have d := off_sl ho (55, 1)
          have d6 := off_ne ho (56, 0)
          have d7 := off_ne ho (57, 0)
          have d8 := off_ne ho (58, 0)
          have d9 := off_ne ho (59, 0)
          simp only [gI_sI]
          rw [if_neg d, if_neg (fun q => d9 q.1), if_neg (fun q => d8 q.1), if_neg (fun q => d7 q.1), if_neg (fun q => d6 q.1)]
          exact y0 a k (List.all_eq_true.mpr (fun q hq => List.all_eq_true.mp ho q (by revert hq; revert q; decide)))
        · have z : ∀ a k, off [(1, 1), (2, 0), (3, 0), (4, 0), (5, 0), (6, 0), (7, 0)] a k = true → gI Y a k = gI X a k := y0
          exact I_net_add (v := t0) h.net rfl rfl hl hi hj ij rfl rfl hv (z 1 0 rfl) (z 55 0 rfl) y1 (nI_s _) (z 1 8 rfl) (z 55 11 rfl) y2 y3 y4 y5 (fun k => by simp only [gI_sI, Nat.reduceEqDiff, false_and, true_and, and_false, and_true, ite_false, ite_true, ↓reduceIte, reduceCtorEq, z 56 k rfl]) (fun k => by simp only [gI_sI, Nat.reduceEqDiff, false_and, true_and, and_false, and_true, ite_false, ite_true, ↓reduceIte, reduceCtorEq, z 57 k rfl]) (fun k => by simp only [gI_sI, Nat.reduceEqDiff, false_and, true_and, and_false, and_true, ite_false, ite_true, ↓reduceIte, reduceCtorEq, z 58 k rfl]) (fun k => by simp only [gI_sI, Nat.reduceEqDiff, false_and, true_and, and_false, and_true, ite_false, ite_true, ↓reduceIte, reduceCtorEq, z 59 k rfl]) y6 y7
      refine R lY gY ⟨fun z => bne c1 z, fun _ => ⟨fun _ => ⟨fun z => absurd z c3, fun _ => ⟨fun _ => ⟨fun _ => ⟨vin hl (by omega), fun z => fin 0 (a0 z).symm, fun z => fin 1 (a1 z).symm⟩, fun z => absurd ((nI_eq_lit (k := 20) rfl (by omega) (by omega)).mp z) (by omega)⟩, fun z => bne c4 z⟩⟩, fun z => bne c2 z⟩⟩
    exact ⟨fun z => key 0 (Or.inl rfl) (fun y => absurd y z) (fun _ => rfl), fun z => key 1 (Or.inr rfl) (fun _ => rfl) (fun y => absurd z y)⟩
  · have hl : ¬ N 1 < 20 := fun y => c5 ((nI_lt_lit (k := 20) rfl (by omega) (by omega)).mpr y)
    exact ⟨_, S, rfl, hL, R hL (rf_0 X) ⟨fun z => bne c1 z, fun _ => ⟨fun _ => ⟨fun z => absurd z c3, fun _ => ⟨fun _ => ⟨fun z => absurd ((nI_eq_lit (n := N 1) (k := 20) rfl (by omega) (by omega)).mpr (by omega)) z, fun _ => ⟨rfl, N, h⟩⟩, fun z => bne c4 z⟩⟩, fun z => bne c2 z⟩⟩⟩
  · exact ⟨_, S, rfl, hL, R hL (rf_0 X) ⟨fun z => bne c1 z, fun _ => ⟨fun _ => ⟨fun z => absurd z c3, fun _ => ⟨fun z => bnf c4 z, fun _ => ⟨rfl, N, h⟩⟩⟩, fun z => bne c2 z⟩⟩⟩
  · exact ⟨_, S, rfl, hL, R hL (rf_0 X) ⟨fun z => bne c1 z, fun _ => ⟨fun z => bnf c2 z, fun _ => ⟨rfl, N, h⟩⟩⟩⟩
