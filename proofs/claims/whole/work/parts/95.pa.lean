theorem near_cg {a b o a' b' o' : Nat → Int32} {k : Nat} : ∀ n, (∀ p, p < n → a p = a' p ∧ b p = b' p ∧ (o p = 0 ↔ o' p = 0)) → nearF a b o k n = nearF a' b' o' k n
  | 0, _ => rfl
  | n + 1, h => by
    obtain ⟨h1, h2, h3⟩ := h n (by omega)
    rw [nearF, nearF, near_cg n (fun p hp => h p (by omega)), h1, h2]
    by_cases z : o n = 0
    · rw [if_pos z, if_pos (h3.mp z)]
    · rw [if_neg z, if_neg (fun q => z (h3.mpr q))]
theorem rg_w {X Y : gp_H} {f : Nat → Nat → Int32} (g : Rf X Y) (hf : ∀ a k, isR a = true → f a k = gI Y a k) : Rf X (gp_wI Y f) := fun a k h => (hf a k h).trans (g a k h)
theorem cg_w {X Y : gp_H} {f : Nat → Nat → Int32} (g : Cf X Y) (hf : ∀ a k, (Nat.blt a 55 || Nat.ble 114 a) = true → f a k = gI Y a k) : Cf X (gp_wI Y f) := fun a k h => (hf a k h).trans (g a k h)
theorem inv_ext {N : Nat → Nat} {S : gp_S} {Y Z : gp_H} (h : Inv N S Z) (l : Lay S Y) (e : ∀ a k, gI Y a k = gI Z a k) : Inv N S Y := by
  obtain ⟨y1, y2, y3, f, y5⟩ := Y
  obtain ⟨z1, z2, z3, g, z5⟩ := Z
  have : f = g := funext fun a => funext fun k => e a k
  subst this
  exact ⟨l, h.2⟩
theorem invx_ext {m : Nat → Bool} {N : Nat → Nat} {S : gp_S} {Y Z : gp_H} (h : InvX m N S Z) (l : Lay S Y) (e : ∀ a k, gI Y a k = gI Z a k) : InvX m N S Y := by
  obtain ⟨y1, y2, y3, f, y5⟩ := Y
  obtain ⟨z1, z2, z3, g, z5⟩ := Z
  have : f = g := funext fun a => funext fun k => e a k
  subst this
  exact ⟨l, h.2⟩
theorem inv_cr {N : Nat → Nat} {S : gp_S} {Y Z : gp_H} (h : Inv N S Z) (l : Lay S Y) (c : Cf Z Y) (r : Rf Z Y) : Inv N S Y := by
  have hx := X_w (f := gI Y) [(107, 0), (108, 0), (112, 0), (113, 0)] false (X_0 h) (fun a k ho _ => by
    have d1 : a ≠ 107 := off_ne ho (107, 0)
    have d2 : a ≠ 108 := off_ne ho (108, 0)
    have d3 : a ≠ 112 := off_ne ho (112, 0)
    have d4 : a ≠ 113 := off_ne ho (113, 0)
    by_cases z : (Nat.blt a 55 || Nat.ble 114 a) = true
    · exact c a k z
    · refine r a k ?_
      simp only [Bool.or_eq_true, Nat.blt_eq, Nat.ble_eq, not_or, Nat.not_lt, Nat.not_le] at z
      simp only [isR, Bool.and_eq_true, Nat.blt_eq, Nat.ble_eq, Bool.not_eq_true', Bool.or_eq_false_iff, beq_eq_false_iff_ne]
      exact ⟨⟨z.1, z.2⟩, ⟨⟨d1, d2⟩, d3⟩, d4⟩)
  have hx := invx_ext hx l (fun _ _ => rfl)
  exact ⟨hx.1, (hx.2.1 rfl), (hx.2.2.1 rfl), (hx.2.2.2.1 rfl), (hx.2.2.2.2.1 rfl), (hx.2.2.2.2.2.1 rfl), (hx.2.2.2.2.2.2.1 rfl), (hx.2.2.2.2.2.2.2.1 rfl), (hx.2.2.2.2.2.2.2.2.1 rfl), (hx.2.2.2.2.2.2.2.2.2.1 rfl), (hx.2.2.2.2.2.2.2.2.2.2.1 rfl), (hx.2.2.2.2.2.2.2.2.2.2.2.1 rfl), (hx.2.2.2.2.2.2.2.2.2.2.2.2.1 rfl), (hx.2.2.2.2.2.2.2.2.2.2.2.2.2.1 rfl), (hx.2.2.2.2.2.2.2.2.2.2.2.2.2.2.1 rfl), (hx.2.2.2.2.2.2.2.2.2.2.2.2.2.2.2.1 rfl), (hx.2.2.2.2.2.2.2.2.2.2.2.2.2.2.2.2.1 rfl), (hx.2.2.2.2.2.2.2.2.2.2.2.2.2.2.2.2.2.1 rfl), (hx.2.2.2.2.2.2.2.2.2.2.2.2.2.2.2.2.2.2.1 rfl), (hx.2.2.2.2.2.2.2.2.2.2.2.2.2.2.2.2.2.2.2.1 rfl), (hx.2.2.2.2.2.2.2.2.2.2.2.2.2.2.2.2.2.2.2.2.1 rfl), (hx.2.2.2.2.2.2.2.2.2.2.2.2.2.2.2.2.2.2.2.2.2 rfl)⟩
section PB
variable {E : gp_E} {N : Nat → Nat} {S : gp_S} {X : gp_H}
theorem s_ne_joinOpen {n : Nat} (hX : Lay S X) (k1 : gI X 1 1 = nI n) (hn : n ≤ 20) (hp : ∀ p, p < n → ∃ i j, i < 12 ∧ j < 12 ∧ i ≠ j ∧ gI X 2 p = nI i ∧ gI X 3 p = nI j) : Ev E m_ne_joinOpen 0 [(0, .ref 1)] [] X (0, 0) (gp_q none (gp_wI X (fun a k => if a = 7 ∧ k < 12 then nearF (gI X 2) (gI X 3) (gI X 5) k n else gI X a k))) := by
  refine b_ne_joinOpen_0 hX (wh_n (s_ar_fill hX (ly_at hX 7 rfl) (by omega)) (ly_wI hX) ?_)
  refine dn (P := fun q => Ev E m_ne_joinOpen 10 [(0, .ref 1), (1, .int (nI q))] [] (gp_wI X (fun a k => if a = 7 ∧ k < 12 then nearF (gI X 2) (gI X 3) (gI X 5) k q else gI X a k)) (0, 0) (gp_q none (gp_wI X (fun a k => if a = 7 ∧ k < 12 then nearF (gI X 2) (gI X 3) (gI X 5) k n else gI X a k)))) (n := n) ?_ ?_
  · exact b_ne_joinOpen_10 (ly_wI hX) ⟨fun _ => ⟨rfl, rfl⟩, fun z => absurd (show gI X 1 1 ≤ nI n by rw [k1]; exact Int32.le_refl _) z⟩
  · intro q hq ih
    obtain ⟨i, j, hi, hj, ne, ei, ej⟩ := hp q hq
    have e : ∀ a k, a ≠ 7 → gI (gp_wI X (fun a k => if a = 7 ∧ k < 12 then nearF (gI X 2) (gI X 3) (gI X 5) k q else gI X a k)) a k = gI X a k := fun a k h => if_neg (fun z => h z.1)
    refine b_ne_joinOpen_10 (ly_wI hX) ⟨fun z => absurd z (by rw [e 1 1 (by decide), k1]; exact nI_nge hq (by omega)), fun _ => ⟨vin (by omega) (by omega), ?_⟩⟩
    rw [nI_c (k := q) (by omega), e 5 q (by decide), e 2 q (by decide), e 3 q (by decide), ei, ej, nI_c (k := i) (by omega), nI_c (k := j) (by omega), nI_s]
    refine ⟨fun c => ⟨vin hi (by omega), vin hj (by omega), ?_⟩, fun c => ?_⟩
    · have hh : gp_sI (gp_sI (gp_wI X (fun a k => if a = 7 ∧ k < 12 then nearF (gI X 2) (gI X 3) (gI X 5) k q else gI X a k)) 7 i ((gI (gp_wI X (fun a k => if a = 7 ∧ k < 12 then nearF (gI X 2) (gI X 3) (gI X 5) k q else gI X a k)) 7 i) ||| ((1 : Int32) <<< (nI j &&& 31)))) 7 j ((gI (gp_sI (gp_wI X (fun a k => if a = 7 ∧ k < 12 then nearF (gI X 2) (gI X 3) (gI X 5) k q else gI X a k)) 7 i ((gI (gp_wI X (fun a k => if a = 7 ∧ k < 12 then nearF (gI X 2) (gI X 3) (gI X 5) k q else gI X a k)) 7 i) ||| ((1 : Int32) <<< (nI j &&& 31)))) 7 j) ||| ((1 : Int32) <<< (nI i &&& 31))) = gp_wI X (fun a k => if a = 7 ∧ k < 12 then nearF (gI X 2) (gI X 3) (gI X 5) k (q + 1) else gI X a k) := by
        refine congrArg (gp_wI X) (funext fun a => funext fun k => ?_)
        show (if a = 7 ∧ k = j then (if 7 = 7 ∧ j = i then _ else if 7 = 7 ∧ j < 12 then nearF (gI X 2) (gI X 3) (gI X 5) j q else gI X 7 j) ||| ((1 : Int32) <<< (nI i &&& 31)) else if a = 7 ∧ k = i then (if 7 = 7 ∧ i < 12 then nearF (gI X 2) (gI X 3) (gI X 5) i q else gI X 7 i) ||| ((1 : Int32) <<< (nI j &&& 31)) else if a = 7 ∧ k < 12 then nearF (gI X 2) (gI X 3) (gI X 5) k q else gI X a k) = (if a = 7 ∧ k < 12 then nearF (gI X 2) (gI X 3) (gI X 5) k (q + 1) else gI X a k)
        by_cases za : a = 7
        · by_cases zk : k < 12
          · rw [if_pos (show a = 7 ∧ k < 12 from ⟨za, zk⟩), if_pos (show a = 7 ∧ k < 12 from ⟨za, zk⟩), nearF, if_neg c, ei, ej]
            have n1 : nI i = nI k ↔ i = k := nI_eq (by omega) (by omega)
            have n2 : nI j = nI k ↔ j = k := nI_eq (by omega) (by omega)
            by_cases z1 : k = j
            · rw [if_pos ⟨za, z1⟩, if_neg (fun z => ne z.2.symm), if_pos ⟨rfl, hj⟩, if_neg (fun z => ne ((n1.mp z).trans z1)), if_pos (n2.mpr z1.symm), Int32.zero_or, z1]
            · rw [if_neg (fun z => z1 z.2)]
              by_cases z2 : k = i
              · rw [if_pos ⟨za, z2⟩, if_pos ⟨rfl, hi⟩, if_pos (n1.mpr z2.symm), if_neg (fun z => z1 (n2.mp z).symm), Int32.or_zero, z2]
              · rw [if_neg (fun z => z2 z.2), if_neg (fun z => z2 (n1.mp z).symm), if_neg (fun z => z1 (n2.mp z).symm), Int32.or_zero, Int32.or_zero]
          · rw [if_neg (fun z => by have := z.2; omega), if_neg (fun z => by have := z.2; omega), if_neg (fun z => zk z.2), if_neg (fun z => zk z.2)]
        · rw [if_neg (fun z => za z.1), if_neg (fun z => za z.1), if_neg (fun z => za z.1), if_neg (fun z => za z.1)]
      rw [hh]
      exact ih
    · have hh : (fun a k => if a = 7 ∧ k < 12 then nearF (gI X 2) (gI X 3) (gI X 5) k (q + 1) else gI X a k) = (fun a k => if a = 7 ∧ k < 12 then nearF (gI X 2) (gI X 3) (gI X 5) k q else gI X a k) := by
        funext a k
        rw [nearF, if_pos c, Int32.or_zero]
      rw [hh] at ih
      exact ih
theorem I_net_re {X' : gp_H} (h : I_net N X) (v o : Nat → Int32) (s : ∀ q, q ∈ [(1, 0), (55, 0), (1, 1), (55, 1), (1, 8), (55, 11)] → gI X' q.1 q.2 = gI X q.1 q.2) (r : ∀ a, a ∈ [2, 3, 56, 57, 6] → ∀ k, gI X' a k = gI X a k) (r4 : ∀ k, gI X' 4 k = v k) (r58 : ∀ k, gI X' 58 k = v k) (r5 : ∀ k, gI X' 5 k = o k) (r59 : ∀ k, gI X' 59 k = o k) (hv : ∀ p, is01 (v p) ∧ is01 (o p)) (ho : ∀ p, p < N 1 → v p = 0 → o p = 1) (r7 : ∀ k, k < 12 → gI X' 7 k = nearF (gI X 56) (gI X 57) o k (N 1)) : I_net N X' := by
  obtain ⟨k0, k1, q1, q2, q3, q4, q5, q6, q7, q8⟩ := h
  unfold I_net
  rw [s (1, 0) (by decide), s (55, 0) (by decide), s (1, 1) (by decide), s (55, 1) (by decide), s (1, 8) (by decide), s (55, 11) (by decide)]
  rw [show gI X' 56 = gI X 56 from funext (r 56 (by decide)), show gI X' 57 = gI X 57 from funext (r 57 (by decide)), show gI X' 59 = o from funext r59, show gI X' 58 = v from funext r58]
  refine ⟨k0, k1, fun p => ⟨(r 2 (by decide) p).trans (q1 p).1, (r 3 (by decide) p).trans (q1 p).2.1, r4 p, r5 p⟩, q2, hv, ho, fun k hk => (r 6 (by decide) k).trans (q5 k hk), r7, q7, q8⟩
/-- the class and the reference turn a pipe's valve -/
theorem vl_end {p : Nat} {v : Nat → Int32} {t0 : Int32} {X3 : gp_H} {G : Nat → Nat → Int32} (h : Inv N S X) (hp : p < N 1) (ht : is01 t0) (hv : ∀ q, is01 (v q)) (hv1 : ∀ q, q < N 1 → v q = 0 → q = p ∧ t0 = 1 ∨ q ≠ p ∧ gI X 59 q = 1) (e3 : X3 = gp_wI X G) (hf : ∀ a k, a ≠ 4 → a ≠ 5 → a ≠ 7 → a ≠ 58 → a ≠ 59 → G a k = gI X a k) (g4 : ∀ k, G 4 k = v k) (g58 : ∀ k, G 58 k = v k) (g5 : ∀ k, G 5 k = if k = p then t0 else gI X 59 k) (g59 : ∀ k, G 59 k = if k = p then t0 else gI X 59 k) (g7 : ∀ k, k < 12 → G 7 k = nearF (gI X 56) (gI X 57) (fun k => if k = p then t0 else gI X 59 k) k (N 1)) : ∃ N, Inv N S X3 := by
  refine iv_w [(4, 0), (5, 0), (7, 0), (58, 0), (59, 0)] false N h e3 (fun a k ho _ => hf a k (off_ne ho (4, 0)) (off_ne ho (5, 0)) (off_ne ho (7, 0)) (off_ne ho (58, 0)) (off_ne ho (59, 0))) (fun hx => ?_)
  subst e3
  have q3 := h.net.2.2.2.2.1
  have net' : I_net N (gp_wI X G) := I_net_re h.net v (fun k => if k = p then t0 else gI X 59 k) (fun q hq => by
      simp only [List.mem_cons, List.not_mem_nil, or_false] at hq
      rcases hq with rfl | rfl | rfl | rfl | rfl | rfl <;> exact hf _ _ (by decide) (by decide) (by decide) (by decide) (by decide)) (fun a ha k => by
      simp only [List.mem_cons, List.not_mem_nil, or_false] at ha
      rcases ha with rfl | rfl | rfl | rfl | rfl <;> exact hf _ _ (by decide) (by decide) (by decide) (by decide) (by decide)) g4 g58 g5 g59 (fun q => ⟨hv q, by
      show is01 (if q = p then t0 else gI X 59 q)
      split
      · exact ht
      · exact (q3 q).2⟩) (fun q hq c => by
      show (if q = p then t0 else gI X 59 q) = 1
      rcases hv1 q hq c with ⟨z, z1⟩ | ⟨z, z1⟩
      · rw [if_pos z]; exact z1
      · rw [if_neg z]; exact z1) g7
  exact ⟨hx.1, net', (hx.2.2.1 rfl), (hx.2.2.2.1 rfl), (hx.2.2.2.2.1 rfl), (hx.2.2.2.2.2.1 rfl), (hx.2.2.2.2.2.2.1 rfl), (hx.2.2.2.2.2.2.2.1 rfl), (hx.2.2.2.2.2.2.2.2.1 rfl), (hx.2.2.2.2.2.2.2.2.2.1 rfl), (hx.2.2.2.2.2.2.2.2.2.2.1 rfl), (hx.2.2.2.2.2.2.2.2.2.2.2.1 rfl), (hx.2.2.2.2.2.2.2.2.2.2.2.2.1 rfl), (hx.2.2.2.2.2.2.2.2.2.2.2.2.2.1 rfl), (hx.2.2.2.2.2.2.2.2.2.2.2.2.2.2.1 rfl), (hx.2.2.2.2.2.2.2.2.2.2.2.2.2.2.2.1 rfl), (hx.2.2.2.2.2.2.2.2.2.2.2.2.2.2.2.2.1 rfl), (hx.2.2.2.2.2.2.2.2.2.2.2.2.2.2.2.2.2.1 rfl), (hx.2.2.2.2.2.2.2.2.2.2.2.2.2.2.2.2.2.2.1 rfl), (hx.2.2.2.2.2.2.2.2.2.2.2.2.2.2.2.2.2.2.2.1 rfl), (hx.2.2.2.2.2.2.2.2.2.2.2.2.2.2.2.2.2.2.2.2.1 rfl), (hx.2.2.2.2.2.2.2.2.2.2.2.2.2.2.2.2.2.2.2.2.2 rfl)⟩
end PB
theorem p_valve {E : gp_E} {N : Nat → Nat} {S : gp_S} {X : gp_H} (h : Inv N S X) (x1 x2 : Int32) : Ev E m_ga_valve 0 [(0, .ref 0), (1, .int x1), (2, .int x2)] [] X (0, 0) (gp_two E m_mo_valve [(0, .ref 55), (1, .int x1), (2, .int x2)]) := by
  have hL := h.lay
  obtain ⟨⟨n1, n2, n3⟩, ⟨k1, k2, k3⟩, q1, q2, q3, q4, q5, q6, q7, q8⟩ := h.net
  have R := fun {Y : gp_H} (lY : Lay S Y) (gY : Rf X Y) {Q} => show _ from by
    have := b_mo_valve_0 (E := E) (x1 := x1) (x2 := x2) (Q := Q) lY
    rw [gY 55 1 rfl, k2, gY 58 _ rfl, gY 59 _ rfl] at this
    exact this
  refine b_ga_valve_0 hL ?_
  rw [k1, ifl_iw]
  refine ⟨fun c1 => ⟨fun c2 => ?_, fun c2 => ⟨_, S, rfl, hL, R hL (rf_0 X) ⟨fun _ => ⟨fun z => bnf c2 z, fun _ => ⟨rfl, N, h⟩⟩, fun z => bne c1 z⟩⟩⟩, fun c1 => ⟨_, S, rfl, hL, R hL (rf_0 X) ⟨fun z => bnf c1 z, fun _ => ⟨rfl, N, h⟩⟩⟩⟩
  obtain ⟨p, hp, rfl⟩ := iw_nI (by omega) c1
  have vi : vp_in (nI p) 20 := vin (by omega) (by omega)
  have cl : Int32.toNatClampNeg (nI p) = p := nI_c (by omega)
  rw [cl] at R ⊢
  rw [(q1 p).2.2.1, (q1 p).2.2.2]
  have key : ∀ t0 : Int32, is01 t0 → (x2 = 1 → t0 = 1) → (¬ x2 = 1 → t0 = 0) → ¬ gI X 58 p = 0 → Ev E m_ga_valve 69 [(0, .ref 0), (1, .int (nI p)), (2, .int x2), (3, .int (bz (!decide (gI X 59 p = 0))))] [.int t0, .int (nI p), .ref 5] X (0, 0) (gp_two E m_mo_valve [(0, .ref 55), (1, .int (nI p)), (2, .int x2)]) := by
    intro t0 ht a1 a0 c58
    refine b_ga_valve_69 hL ⟨vi, by rcases ht with e | e <;> rw [e] <;> decide, ?_⟩
    rw [cl]
    refine wh_n (s_ne_joinOpen (n := N 1) (ly_sI hL) k1 k3 (fun q hq => by
      obtain ⟨i, j, a, b, c, d, e⟩ := q2 q hq
      exact ⟨i, j, by omega, by omega, c, (q1 q).1.trans d, (q1 q).2.1.trans e⟩)) (ly_wI (ly_sI hL)) ⟨_, S, rfl, ly_wI (ly_sI hL), ?_⟩
    have gY : Rf X (gp_wI (gp_sI X 5 p t0) (fun a k => if a = 7 ∧ k < 12 then nearF (gI (gp_sI X 5 p t0) 2) (gI (gp_sI X 5 p t0) 3) (gI (gp_sI X 5 p t0) 5) k (N 1) else gI (gp_sI X 5 p t0) a k)) := rg_w (rg_sI (rf_0 X)) (fun a k ha => if_neg (fun z => by rw [z.1] at ha; exact absurd ha (by decide)))
    have e7 : ∀ k, nearF (gI (gp_sI X 5 p t0) 2) (gI (gp_sI X 5 p t0) 3) (gI (gp_sI X 5 p t0) 5) k (N 1) = nearF (gI X 56) (gI X 57) (fun k => if k = p then t0 else gI X 59 k) k (N 1) := fun k => near_cg (N 1) (fun q hq => ⟨(q1 q).1, (q1 q).2.1, by
      show (if 5 = 5 ∧ q = p then t0 else gI X 5 q) = 0 ↔ (if q = p then t0 else gI X 59 q) = 0
      by_cases z : q = p
      · rw [if_pos ⟨rfl, z⟩, if_pos z]
      · rw [if_neg (fun y => z y.2), if_neg z, (q1 q).2.2.2]⟩)
    have iv : ∃ M, Inv M S (gp_sI (gp_wI (gp_sI X 5 p t0) (fun a k => if a = 7 ∧ k < 12 then nearF (gI (gp_sI X 5 p t0) 2) (gI (gp_sI X 5 p t0) 3) (gI (gp_sI X 5 p t0) 5) k (N 1) else gI (gp_sI X 5 p t0) a k)) 59 p t0) := by
      refine vl_end (p := p) (v := gI X 58) (t0 := t0) (G := gp_up (fun a k => if a = 7 ∧ k < 12 then nearF (gI (gp_sI X 5 p t0) 2) (gI (gp_sI X 5 p t0) 3) (gI (gp_sI X 5 p t0) 5) k (N 1) else gI (gp_sI X 5 p t0) a k) 59 p t0) h hp ht (fun q => (q3 q).1) (fun q hq c => ?_) rfl (fun a k _ d5 d7 _ d59 => ?_) (fun k => (q1 k).2.2.1) (fun k => rfl) (fun k => ?_) (fun k => ?_) (fun k hk => ?_)
      · exact Or.inr ⟨fun e => by rw [e] at c; exact c58 c, q4 q hq c⟩
      · show (if a = 59 ∧ k = p then t0 else if a = 7 ∧ k < 12 then _ else if a = 5 ∧ k = p then t0 else gI X a k) = _
        rw [if_neg (fun z => d59 z.1), if_neg (fun z => d7 z.1), if_neg (fun z => d5 z.1)]
      · show (if 5 = 5 ∧ k = p then t0 else gI X 5 k) = _
        by_cases z : k = p
        · rw [if_pos ⟨rfl, z⟩, if_pos z]
        · rw [if_neg (fun y => z y.2), if_neg z, (q1 k).2.2.2]
      · show (if 59 = 59 ∧ k = p then t0 else gI X 59 k) = _
        by_cases z : k = p
        · rw [if_pos ⟨rfl, z⟩, if_pos z]
        · rw [if_neg (fun y => z y.2), if_neg z]
      · show (if 7 = 7 ∧ k < 12 then _ else _) = _
        rw [if_pos ⟨rfl, hk⟩]
        exact e7 k
    have fin : ∀ w : Int32, bz (!decide (gI X 59 p = 0)) = w → Ev E m_mo_valve 54 [(0, .ref 55), (1, .int (nI p)), (2, .int x2)] [.int w] (gp_wI (gp_sI X 5 p t0) (fun a k => if a = 7 ∧ k < 12 then nearF (gI (gp_sI X 5 p t0) 2) (gI (gp_sI X 5 p t0) 3) (gI (gp_sI X 5 p t0) 5) k (N 1) else gI (gp_sI X 5 p t0) a k)) (0, 0) (fun r2 X2 => r2 = some (.int (bz (!decide (gI X 59 p = 0)))) ∧ ∃ N, Inv N S X2) := by
      intro w ew
      refine b_mo_valve_54 (ly_wI (ly_sI hL)) ?_
      rw [cl]
      refine ⟨fun z => ⟨vi, by rw [ew], ?_⟩, fun z => ⟨vi, by rw [ew], ?_⟩⟩
      · rw [← a0 z]; exact iv
      · rw [← a1 z]; exact iv
    refine R (ly_wI (ly_sI hL)) gY ⟨fun _ => ⟨fun _ => ⟨vi, fun _ => ⟨fun z => fin 0 (by rw [decide_eq_true z]; rfl), fun z => fin 1 (by rw [decide_eq_false z]; rfl)⟩, fun z => absurd z c58⟩, fun z => bne c2 z⟩, fun z => bne c1 z⟩
  refine ⟨vi, fun c3 => ⟨fun z => key 0 (Or.inl rfl) (fun y => absurd y z) (fun _ => rfl) c3, fun z => key 1 (Or.inr rfl) (fun _ => rfl) (fun y => absurd z y) c3⟩, fun c3 => ⟨_, S, rfl, hL, R hL (rf_0 X) ⟨fun _ => ⟨fun _ => ⟨vi, fun z => absurd c3 z, fun _ => ⟨rfl, N, h⟩⟩, fun z => bne c2 z⟩, fun z => bne c1 z⟩⟩⟩
