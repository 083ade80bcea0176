section LAR
variable {E : gp_E} {N : Nat → Nat} {S : gp_S} {X Y : gp_H}
def Fz (Y Z : gp_H) : Prop := ∀ a k, a ≠ 112 → ¬ (a = 55 ∧ k = 73) → ¬ (a = 55 ∧ k = 74) → gI Z a k = gI Y a k
theorem s_byteAt {Z : gp_H} {T : Nat → Int32} {n : Nat} (lZ : Lay S Z) (hn : n ≤ 60) (e0 : gI Z 55 64 = nI n) (eT : ∀ k, gI Z 102 k = T k) {q : Nat} (hq : q ≤ 60) : Ev E m_mo_byteAt 0 [(0, .ref 55), (1, .int (nI q))] [] Z (0, 0) (gp_q (some (.int (if q < n then T q else -1))) Z) := by
  refine b_mo_byteAt_0 lZ ?_
  rw [e0, nI_leI (by omega) (by omega), nI_c (k := q) (by omega), eT]
  exact ⟨fun z => ⟨by rw [if_neg (by omega)], rfl⟩, fun z => ⟨vin (by omega) (by omega), by rw [if_pos (by omega)], rfl⟩⟩
theorem s_num {Z : gp_H} {T : Nat → Int32} {n : Nat} (lZ : Lay S Z) (hn : n ≤ 60) (e0 : gI Z 55 64 = nI n) (eT : ∀ k, gI Z 102 k = T k) {q g : Nat} (hq : q ≤ n) (hg : g < 4) (e7 : gI Z 55 73 = nI q) : Ev E m_mo_readsNumber 0 [(0, .ref 55), (1, .int (nI g))] [] Z (0, 0) (fun r Z' => r = none ∧ Lay S Z' ∧ Fz Z Z' ∧ gI Z' 55 73 = nI (dE T n (mst g) q) ∧ gI Z' 55 74 = (if dE T n (mst g) q = q then 1 else 0) ∧ gI Z' 112 g = dW T (dE T n (mst g) q - q) q 0 ∧ ∀ k, k ≠ g → gI Z' 112 k = gI Z 112 k) := by
  have ml : mst g ≤ 4 := by unfold mst; split; · omega
                            split <;> omega
  have dl := dE_le T n (mst g) q hq
  have fin : ∀ Z2, Lay S Z2 → (∀ a k, ¬ (a = 55 ∧ k = 73) → gI Z2 a k = gI Z a k) → gI Z2 55 73 = nI (dE T n (mst g) q) → ∀ t, (t = if dE T n (mst g) q = q then 1 else 0) → Ev E m_mo_readsNumber 92 [(0, .ref 55), (1, .int (nI g)), (2, .int (nI (mst g))), (3, .int (nI (dE T n (mst g) q - q))), (4, .int (dW T (dE T n (mst g) q - q) q 0))] [.int t, .ref 55] Z2 (0, 0) (fun r Z' => r = none ∧ Lay S Z' ∧ Fz Z Z' ∧ gI Z' 55 73 = nI (dE T n (mst g) q) ∧ gI Z' 55 74 = (if dE T n (mst g) q = q then 1 else 0) ∧ gI Z' 112 g = dW T (dE T n (mst g) q - q) q 0 ∧ ∀ k, k ≠ g → gI Z' 112 k = gI Z 112 k) := fun Z2 l2 f2 e2 t et => by
    refine b_mo_readsNumber_92 l2 ?_
    rw [nI_c (k := g) (by omega)]
    have t01 : t = 0 ∨ t = 1 := by rw [et]; split; · exact Or.inr rfl
                                   · exact Or.inl rfl
    refine ⟨⟨?_, ?_⟩, vin hg (by omega), rfl, ly_sI (ly_sI l2), fun a k z1 z2 z3 => ?_, ?_, ?_, ?_, fun k hk => ?_⟩
    · rcases t01 with y | y <;> subst y <;> decide
    · rcases t01 with y | y <;> subst y <;> decide
    · exact (if_neg (fun y => z1 y.1)).trans ((if_neg z3).trans (f2 a k z2))
    · exact e2
    · exact et
    · exact if_pos ⟨rfl, rfl⟩
    · exact (if_neg (fun y : 112 = 112 ∧ k = g => hk y.2)).trans (f2 112 k (by omega))
  have f82 : ∀ Z2, Lay S Z2 → (∀ a k, ¬ (a = 55 ∧ k = 73) → gI Z2 a k = gI Z a k) → gI Z2 55 73 = nI (dE T n (mst g) q) → Ev E m_mo_readsNumber 82 [(0, .ref 55), (1, .int (nI g)), (2, .int (nI (mst g))), (3, .int (nI (dE T n (mst g) q - q))), (4, .int (dW T (dE T n (mst g) q - q) q 0))] [] Z2 (0, 0) (fun r Z' => r = none ∧ Lay S Z' ∧ Fz Z Z' ∧ gI Z' 55 73 = nI (dE T n (mst g) q) ∧ gI Z' 55 74 = (if dE T n (mst g) q = q then 1 else 0) ∧ gI Z' 112 g = dW T (dE T n (mst g) q - q) q 0 ∧ ∀ k, k ≠ g → gI Z' 112 k = gI Z 112 k) := fun Z2 l2 f2 e2 => by
    refine b_mo_readsNumber_82 l2 ?_
    rw [show (0 : Int32) = nI 0 from rfl, nI_eq (by omega) (by omega)]
    exact ⟨fun z => fin Z2 l2 f2 e2 (nI 0) (by rw [if_neg (by omega)]; rfl), fun z => fin Z2 l2 f2 e2 1 (by rw [if_pos (by omega)])⟩
  have go : ∀ r e (Z1 : gp_H), q ≤ e → e ≤ n → e - q + r = mst g → dE T n r e = dE T n (mst g) q → Lay S Z1 → (∀ a k, ¬ (a = 55 ∧ k = 73) → gI Z1 a k = gI Z a k) → gI Z1 55 73 = nI e → Ev E m_mo_readsNumber 24 [(0, .ref 55), (1, .int (nI g)), (2, .int (nI (mst g))), (3, .int (nI (e - q))), (4, .int (dW T (e - q) q 0))] [] Z1 (0, 0) (fun r Z' => r = none ∧ Lay S Z' ∧ Fz Z Z' ∧ gI Z' 55 73 = nI (dE T n (mst g) q) ∧ gI Z' 55 74 = (if dE T n (mst g) q = q then 1 else 0) ∧ gI Z' 112 g = dW T (dE T n (mst g) q - q) q 0 ∧ ∀ k, k ≠ g → gI Z' 112 k = gI Z 112 k) := by
    intro r
    induction r with
    | zero =>
      intro e Z1 h1 h2 h3 h4 l1 f1 e1
      have h4' : dE T n (mst g) q = e := h4.symm
      refine b_mo_readsNumber_24 l1 ⟨fun _ => ?_, fun z => absurd (nI_gee (by omega) (by omega)) z⟩
      have := f82 Z1 l1 f1 (by rw [h4']; exact e1)
      rw [h4'] at this ⊢
      exact this
    | succ r ih =>
      intro e Z1 h1 h2 h3 h4 l1 f1 e1
      refine b_mo_readsNumber_24 l1 ⟨fun z => absurd z (nI_nge (by omega) (by omega)), fun _ => ?_⟩
      have b1 := s_byteAt (E := E) (T := T) (n := n) (q := e) l1 hn ((f1 55 64 (by decide)).trans e0) (fun k => (f1 102 k (by omega)).trans (eT k)) (by omega)
      rw [e1]
      refine wh_i b1 l1 ⟨fun z => ?_, fun z => ?_⟩
      · have h4' : dE T n (mst g) q = e := by
          rw [← h4]
          refine if_neg (fun y => ?_)
          rw [if_pos y.1] at z
          exact bnf z y.2
        have := f82 Z1 l1 f1 (by rw [h4']; exact e1)
        rw [h4'] at this ⊢
        exact this
      · have lt : e < n := Nat.lt_of_not_le (fun y => by rw [if_neg (by omega)] at z; exact absurd z (by decide))
        rw [e1]
        refine wh_i b1 l1 ?_
        rw [if_pos lt] at z ⊢
        have h4' : dE T n r (e + 1) = dE T n (mst g) q := by
          rw [← h4]
          exact (if_pos ⟨lt, z⟩).symm
        rw [e1, nI_s, nI_s, Int32.mul_comm]
        have := ih (e + 1) (gp_sI Z1 55 73 (nI (e + 1))) (by omega) (by omega) (by omega) h4' (ly_sI l1) (fun a k ha => (if_neg ha).trans (f1 a k ha)) rfl
        rw [show e + 1 - q = e - q + 1 by omega, dW_s, show q + (e - q) = e by omega] at this
        exact this
  have st : ∀ t : Int32, t = nI (mst g) → Ev E m_mo_readsNumber 18 [(0, .ref 55), (1, .int (nI g))] [.int t] Z (0, 0) (fun r Z' => r = none ∧ Lay S Z' ∧ Fz Z Z' ∧ gI Z' 55 73 = nI (dE T n (mst g) q) ∧ gI Z' 55 74 = (if dE T n (mst g) q = q then 1 else 0) ∧ gI Z' 112 g = dW T (dE T n (mst g) q - q) q 0 ∧ ∀ k, k ≠ g → gI Z' 112 k = gI Z 112 k) := fun t et => by
    refine b_mo_readsNumber_18 lZ ?_
    rw [et]
    have := go (mst g) q Z (Nat.le_refl _) hq (by omega) rfl lZ (fun _ _ _ => rfl) e7
    rw [Nat.sub_self] at this
    exact this
  refine b_mo_readsNumber_0 lZ ?_
  rw [show (0 : Int32) = nI 0 from rfl, show (3 : Int32) = nI 3 from rfl, nI_eq (by omega) (by omega), nI_eq (by omega) (by omega)]
  refine ⟨fun z => ⟨fun z2 => st _ ?_, fun z2 => st _ ?_⟩, fun z => st _ ?_⟩
  · unfold mst; rw [if_neg z, if_neg z2]
  · unfold mst; rw [if_neg z, if_pos z2]; rfl
  · unfold mst; rw [if_pos z]; rfl
/-- the reference reads its form -/
def xf (i : Nat) : Int32 := if i = 0 then 1 else 0
theorem mt_r (h : Inv N S X) {i : Nat} (hi : i < 2) (yT : ∀ k, gI Y 102 k = gI X 102 k) (y64 : gI Y 55 64 = nI (N 14)) (yx : (∀ f, f < 24 → gI Y 110 f = barF.getD f 0) ∧ ∀ f, f < 25 → gI Y 111 f = payF.getD f 0) {Q : Option Value → gp_H → Prop} {R : Bool × Nat × List Int32} (g : ∀ Z (x2 : Int32), Lay S Z → Fz Y Z → gI Z 55 73 = nI R.2.1 → gI Z 55 74 = (if R.1 = true then 0 else 1) → (∀ j, j < R.2.2.length → gI Z 112 (qs i j) = R.2.2.getD j 0) → Ev E m_mo_law 91 [(0, .ref 55), (1, .int (xf i)), (2, .int x2)] [] Z (0, 0) Q) : ∀ (d f q : Nat) (ns : List Int32) (Z : gp_H), d + f = ln i → q ≤ N 14 → ns.length = dc i f → ns.length ≤ 3 → mt i (gI X 102) (N 14) d f q ns = R → Lay S Z → Fz Y Z → gI Z 55 73 = nI q → gI Z 55 74 = 0 → (∀ j, j < ns.length → gI Z 112 (qs i j) = ns.getD j 0) → Ev E m_mo_law 40 [(0, .ref 55), (1, .int (xf i)), (2, .int (nI f))] [] Z (0, 0) Q := by
  have k3 := h.tap.1.2.2
  have l25 := ln_le hi
  have to52 : ∀ {Z : gp_H} {f : Nat}, Lay S Z → Ev E m_mo_law 52 [(0, .ref 55), (1, .int (xf i)), (2, .int (nI f))] [.int (nI (ln i)), .int (nI f)] Z (0, 0) Q → Ev E m_mo_law 40 [(0, .ref 55), (1, .int (xf i)), (2, .int (nI f))] [] Z (0, 0) Q := fun {Z f} lZ k => by
    refine b_mo_law_40 lZ ?_
    rcases (show i = 0 ∨ i = 1 by omega) with y | y <;> subst y
    · exact ⟨fun z => absurd z (by decide), fun _ => k⟩
    · exact ⟨fun _ => k, fun z => absurd rfl z⟩
  have brk : ∀ (f q : Nat) (ns : List Int32) (Z : gp_H), (false, q, ns) = R → Lay S Z → Fz Y Z → gI Z 55 73 = nI q → gI Z 55 74 = 1 → (∀ j, j < ns.length → gI Z 112 (qs i j) = ns.getD j 0) → Ev E m_mo_law 40 [(0, .ref 55), (1, .int (xf i)), (2, .int (nI f))] [] Z (0, 0) Q := fun f q ns Z eR lZ fZ e1 e2 e3 => by
    subst eR
    have k := g Z (nI f) lZ fZ e1 e2 e3
    refine to52 lZ (b_mo_law_52 lZ ⟨fun _ => k, fun _ => ⟨fun _ => k, fun z => ?_⟩⟩)
    rw [e2] at z
    exact absurd z (by decide)
  intro d
  induction d with
  | zero =>
    intro f q ns Z e hq hn h3 eR lZ fZ e1 e2 e3
    obtain rfl : f = ln i := by omega
    subst eR
    exact to52 lZ (b_mo_law_52 lZ ⟨fun _ => g Z _ lZ fZ e1 e2 e3, fun z => absurd (Int32.le_refl _) z⟩)
  | succ d ih =>
    intro f q ns Z e hq hn h3 eR lZ fZ e1 e2 e3
    have hf : f < ln i := by omega
    obtain ⟨t1, t2⟩ := tab i hi f hf
    have zT : ∀ k, gI Z 102 k = gI X 102 k := fun k => (fZ 102 k (by decide) (by omega) (by omega)).trans (yT k)
    have z64 : gI Z 55 64 = nI (N 14) := (fZ 55 64 (by decide) (by decide) (by decide)).trans y64
    have body : ∃ Qz, Ev E m_mo_reads 0 [(0, .ref 55), (1, .int (rsg i f))] [] Z (0, 0) Qz ∧ ∀ r Z', Qz r Z' → (r = none ∧ Lay S Z' ∧ Ev E m_mo_law 40 [(0, .ref 55), (1, .int (xf i)), (2, .int (nI f + 1))] [] Z' (0, 0) Q) := by
      cases nf : nd i f with
      | true =>
        obtain ⟨u1, u2, u3, u4, u5, u6⟩ := t1 nf
        have sn := s_num (E := E) (T := gI X 102) lZ k3 z64 zT hq u5 e1
        rw [u6] at sn
        rw [u4]
        have bd : Ev E m_mo_reads 0 [(0, .ref 55), (1, .int (nI (qs i (dc i f))))] [] Z (0, 0) (fun r Z' => r = none ∧ Lay S Z' ∧ Fz Z Z' ∧ gI Z' 55 73 = nI (dE (gI X 102) (N 14) (mo i f) q) ∧ gI Z' 55 74 = (if dE (gI X 102) (N 14) (mo i f) q = q then 1 else 0) ∧ gI Z' 112 (qs i (dc i f)) = dW (gI X 102) (dE (gI X 102) (N 14) (mo i f) q - q) q 0 ∧ ∀ k, k ≠ qs i (dc i f) → gI Z' 112 k = gI Z 112 k) := b_mo_reads_0 lZ ⟨fun z => absurd z (nI_nge (b := 4) u5 (by decide)), fun _ => ⟨_, sn, fun r Z' hz => ⟨hz.1, hz.2.1, rfl, hz.2⟩⟩⟩
        refine ⟨_, bd, fun r Z' ⟨y1, y2, y3, y4, y5, y6, y7⟩ => ⟨y1, y2, ?_⟩⟩
        have fZ' : Fz Y Z' := fun a k z1 z2 z3 => (y3 a k z1 z2 z3).trans (fZ a k z1 z2 z3)
        rw [nI_s]
        by_cases w : dE (gI X 102) (N 14) (mo i f) q = q
        · refine brk (f + 1) q ns Z' ?_ y2 fZ' (by rw [y4, w]) (by rw [y5, if_pos w]) (fun j hj => ?_)
          · rw [← eR]
            show _ = (if nd i f = true then (if dE (gI X 102) (N 14) (mo i f) q = q then _ else _) else _)
            rw [if_pos nf, if_pos w]
          · rw [y7 _ (qs_ne i hi j (by omega) (dc i f) u2 (by omega))]
            exact e3 j hj
        · have ll : (ns ++ [dW (gI X 102) (dE (gI X 102) (N 14) (mo i f) q - q) q 0]).length = ns.length + 1 := by simp
          refine ih (f + 1) (dE (gI X 102) (N 14) (mo i f) q) (ns ++ [dW (gI X 102) (dE (gI X 102) (N 14) (mo i f) q - q) q 0]) Z' (by omega) (dE_le (gI X 102) (N 14) (mo i f) q hq).2 ?_ (by omega) ?_ y2 fZ' y4 (by rw [y5, if_neg w]) (fun j hj => ?_)
          · rw [ll, hn]
            show _ = cn (nd i) f + (if nd i f = true then 1 else 0)
            rw [if_pos nf]; rfl
          · rw [← eR]
            show _ = (if nd i f = true then (if dE (gI X 102) (N 14) (mo i f) q = q then _ else _) else _)
            rw [if_pos nf, if_neg w]
          · rw [ll] at hj
            by_cases v : j = ns.length
            · rw [v]
              have : gI Z' 112 (qs i ns.length) = dW (gI X 102) (dE (gI X 102) (N 14) (mo i f) q - q) q 0 := by rw [hn]; exact y6
              rw [this]; simp
            · rw [y7 _ (qs_ne i hi j (by omega) (dc i f) u2 (by omega)), e3 j (by omega)]
              simp only [List.getD_eq_getElem?_getD, List.getElem?_append_left (show j < ns.length by omega)]
      | false =>
        have nf2 : ¬ nd i f = true := by rw [nf]; decide
        obtain ⟨u1, u2, u3⟩ := t2 nf
        rw [u1] at u2 ⊢
        have b1 := s_byteAt (E := E) (T := gI X 102) (n := N 14) (q := q) lZ k3 z64 zT (by omega)
        have r31 : ∀ t : Int32, (t = if q < N 14 ∧ gI X 102 q = sg i f then 0 else 1) → Ev E m_mo_reads 31 [(0, .ref 55), (1, .int (sg i f))] [.int t, .ref 55] Z (0, 0) (fun r Z' => r = none ∧ Lay S Z' ∧ Fz Z Z' ∧ gI Z' 55 73 = nI (if q < N 14 ∧ gI X 102 q = sg i f then q + 1 else q) ∧ gI Z' 55 74 = (if q < N 14 ∧ gI X 102 q = sg i f then 0 else 1) ∧ ∀ k, gI Z' 112 k = gI Z 112 k) := fun t et => by
          have t01 : t = 0 ∨ t = 1 := by rw [et]; split; · exact Or.inl rfl
                                         · exact Or.inr rfl
          have e73 : gI (gp_sI Z 55 74 t) 55 73 = nI q := e1
          refine b_mo_reads_31 lZ ⟨⟨?_, ?_⟩, ?_⟩
          · rcases t01 with y | y <;> subst y <;> decide
          · rcases t01 with y | y <;> subst y <;> decide
          rw [e1, nI_s]
          refine ⟨fun z => ⟨rfl, ly_sI (ly_sI lZ), fun a k z1 z2 z3 => (if_neg z2).trans (if_neg z3), ?_, ?_, fun k => rfl⟩, fun z => ⟨rfl, ly_sI (ly_sI lZ), fun a k z1 z2 z3 => (if_neg z2).trans (if_neg z3), ?_, ?_, fun k => rfl⟩⟩
          · have w : q < N 14 ∧ gI X 102 q = sg i f := Classical.byContradiction (fun y => by rw [if_neg y] at et; rw [et] at z; exact absurd z (by decide))
            rw [if_pos w]; rfl
          · exact et
          · have w : ¬ (q < N 14 ∧ gI X 102 q = sg i f) := fun y => by rw [if_pos y] at et; exact z et
            rw [if_neg w]
            exact Int32.add_zero (nI q)
          · exact et
        have same : (if q < N 14 then gI X 102 q else -1) = sg i f ↔ q < N 14 ∧ gI X 102 q = sg i f := by
          by_cases w : q < N 14
          · rw [if_pos w]; exact ⟨fun y => ⟨w, y⟩, fun y => y.2⟩
          · rw [if_neg w]; exact ⟨fun y => absurd y.symm u3, fun y => absurd y.1 w⟩
        refine ⟨_, b_mo_reads_0 lZ ⟨fun _ => ?_, fun z => absurd u2 z⟩, fun r Z' (hz : r = none ∧ Lay S Z' ∧ Fz Z Z' ∧ gI Z' 55 73 = nI (if q < N 14 ∧ gI X 102 q = sg i f then q + 1 else q) ∧ gI Z' 55 74 = (if q < N 14 ∧ gI X 102 q = sg i f then 0 else 1) ∧ ∀ k, gI Z' 112 k = gI Z 112 k) => ⟨hz.1, hz.2.1, ?_⟩⟩
        · rw [e1]
          refine wh_i b1 lZ ?_
          rw [same]
          exact ⟨fun y => r31 0 (by rw [if_pos y]), fun y => r31 1 (by rw [if_neg y])⟩
        · obtain ⟨y1, y2, y3, y4, y5, y6⟩ := hz
          have fZ' : Fz Y Z' := fun a k z1 z2 z3 => (y3 a k z1 z2 z3).trans (fZ a k z1 z2 z3)
          have n' : ∀ j, j < ns.length → gI Z' 112 (qs i j) = ns.getD j 0 := fun j hj => (y6 _).trans (e3 j hj)
          rw [nI_s]
          by_cases w : q < N 14 ∧ gI X 102 q = sg i f
          · rw [if_pos w] at y4 y5
            refine ih (f + 1) (q + 1) ns Z' (by omega) (by omega) ?_ h3 ?_ y2 fZ' y4 y5 n'
            · rw [hn]
              show _ = cn (nd i) f + (if nd i f = true then 1 else 0)
              rw [if_neg nf2]; rfl
            · rw [← eR]
              show _ = (if nd i f = true then _ else if q < N 14 ∧ gI X 102 q = sg i f then _ else _)
              rw [if_neg nf2, if_pos w]
          · rw [if_neg w] at y4 y5
            refine brk (f + 1) q ns Z' ?_ y2 fZ' y4 y5 n'
            rw [← eR]
            show _ = (if nd i f = true then _ else if q < N 14 ∧ gI X 102 q = sg i f then _ else _)
            rw [if_neg nf2, if_neg w]
    refine to52 lZ (b_mo_law_52 lZ ⟨fun z => absurd z (nI_nge hf (by omega)), fun _ => ⟨fun z => absurd e2 z, fun _ => ?_⟩⟩)
    have cl : Int32.toNatClampNeg (nI f) = f := nI_c (by omega)
    rw [cl]
    rcases (show i = 0 ∨ i = 1 by omega) with y | y
    · subst y
      have r0 : gI Z 110 f = rsg 0 f := (fZ 110 f (by decide) (by omega) (by omega)).trans (yx.1 f hf)
      rw [r0]
      exact ⟨fun z => absurd z (by decide), fun _ => ⟨vin (show f < 24 from hf) (by omega), body⟩⟩
    · subst y
      have r0 : gI Z 111 f = rsg 1 f := (fZ 111 f (by decide) (by omega) (by omega)).trans (yx.2 f hf)
      rw [r0]
      exact ⟨fun _ => ⟨vin (show f < 25 from hf) (by omega), body⟩, fun z => absurd rfl z⟩
end LAR
