theorem lastF_le (f : Nat → Int32) (j : Nat) : ∀ n, lastF f j n ≤ n
  | 0 => Nat.le_refl 0
  | n + 1 => by
    unfold lastF
    split
    · omega
    · have := lastF_le f j n; omega
theorem lastF_at (f : Nat → Int32) (j : Nat) : ∀ n m, lastF f j n = m + 1 → f m = nI j ∧ m < n
  | 0, m, h => by unfold lastF at h; omega
  | n + 1, m, h => by
    unfold lastF at h
    split at h
    · rename_i z
      have : n = m := by omega
      rw [← this]; exact ⟨z, by omega⟩
    · have := lastF_at f j n m h
      exact ⟨this.1, by omega⟩
theorem lastF_st (f : Nat → Int32) (j : Nat) : ∀ n q, lastF f j n ≤ q → q ≤ n → lastF f j n = lastF f j q
  | 0, q, _, h => by rw [show q = 0 by omega]
  | n + 1, q, h1, h2 => by
    rcases Nat.lt_or_ge q (n + 1) with z | z
    · unfold lastF at h1 ⊢
      split at h1
      · omega
      · rename_i zz
        rw [if_neg zz]
        have e := lastF_st f j n q h1 (by omega)
        rw [e]
        cases q <;> rfl
    · rw [show q = n + 1 by omega]
theorem lastF_cg {f g : Nat → Int32} (j : Nat) : ∀ n, (∀ i, i < n → f i = g i) → lastF f j n = lastF g j n
  | 0, _ => rfl
  | n + 1, h => by
    unfold lastF
    rw [h n (by omega), lastF_cg j n (fun i hi => h i (by omega))]
section KN
variable {E : gp_E} {N : Nat → Nat} {S : gp_S} {X Y : gp_H}
/-- what is known of a home after k surveys -/
def kwS (N : Nat → Nat) (S : gp_S) (X : gp_H) (j k : Nat) : Int32 := if lastF (gI X 79) j (min k (N 5)) = 0 then allm S.2.1 else gI X 80 (lastF (gI X 79) j (min k (N 5)) - 1)
theorem s_ga_knownSet (h : Inv N S X) {j k : Nat} (hj : j < S.1) (hk : k < 2 ^ 31) : Ev E m_ga_knownSet 0 [(0, .ref 0), (1, .ref (S.2.2.1 j)), (2, .int (nI k))] [] X (0, 0) (gp_q (some (.int (kwS N S X j k))) X) := by
  obtain ⟨⟨k1, k2, k3⟩, q1, q2⟩ := h.sur
  have hX := h.lay
  have ha := (hm_at hX hj).2
  have l := l40 hX
  have fin : ∀ (n : Nat) (x4 : Int32), lastF (gI X 79) j n ≤ k → min k (N 5) ≤ n → n ≤ N 5 → Ev E m_ga_knownSet 34 [(0, .ref 0), (1, .ref (S.2.2.1 j)), (2, .int (nI k)), (3, .int (nI (lastF (gI X 79) j n))), (4, .int x4)] [] X (0, 0) (gp_q (some (.int (kwS N S X j k))) X) := by
    intro n x4 a b c
    have d := lastF_le (gI X 79) j n
    have e : lastF (gI X 79) j n = lastF (gI X 79) j (min k (N 5)) := lastF_st _ j n _ (by omega) b
    refine b_ga_knownSet_34 hX ha ⟨fun z => ?_, fun z => ⟨?_, rfl⟩⟩
    · have z0 : ¬ lastF (gI X 79) j n = 0 := fun y => z (by rw [y]; rfl)
      refine ⟨vin (by omega) (by omega), ?_, rfl⟩
      rw [nI_c (by omega)]
      unfold kwS
      rw [← e, if_neg z0]
      obtain ⟨m, hm⟩ : ∃ m, lastF (gI X 79) j n = m + 1 := ⟨lastF (gI X 79) j n - 1, by omega⟩
      rw [hm, Nat.add_sub_cancel, (q1 m (by omega)).1]
    · have z0 : lastF (gI X 79) j n = 0 := (nI_eq (b := 0) (by omega) (by omega)).mp z
      unfold kwS
      rw [← e, if_pos z0, h.mod.1.1]
  have loop : ∀ (d r n : Nat), d + r = 300 → lastF (gI X 79) j n ≤ d → min k (N 5) ≤ n → n ≤ N 5 → Ev E m_ga_knownSet 8 [(0, .ref 0), (1, .ref (S.2.2.1 j)), (2, .int (nI k)), (3, .int (nI (lastF (gI X 79) j n))), (4, .int (nI r))] [] X (0, 0) (gp_q (some (.int (kwS N S X j k))) X) := by
    intro d
    induction d with
    | zero =>
      intro r n hr a b c
      refine b_ga_knownSet_8 hX ha ⟨fun _ => fin n _ (by omega) b c, fun z => absurd (nI_gee (b := 300) (a := r) (by omega) (by omega)) z⟩
    | succ d ih =>
      intro r n hr a b c
      have dd := lastF_le (gI X 79) j n
      refine b_ga_knownSet_8 hX ha ⟨fun z => absurd z (nI_nge (a := r) (b := 300) (by omega) (by omega)), fun _ => ⟨fun z => fin n _ ((nI_leI (by omega) hk).mp z) b c, fun z => ?_⟩⟩
      have z' : k < lastF (gI X 79) j n := Nat.lt_of_not_le (fun y => z ((nI_leI (by omega) hk).mpr y))
      obtain ⟨m, hm⟩ : ∃ m, lastF (gI X 79) j n = m + 1 := ⟨lastF (gI X 79) j n - 1, by omega⟩
      obtain ⟨f1, f2⟩ := lastF_at _ _ n m hm
      obtain ⟨-, ⟨j', hj', e1, e2⟩, -⟩ := q1 m (by omega)
      have jj : j' = j := (nI_eq (by omega) (by omega)).mp (e1.symm.trans f1)
      rw [jj] at e2
      refine ⟨vin (by omega) (by omega), ?_⟩
      rw [nI_c (by omega), hm, e2, nI_s]
      have := lastF_le (gI X 79) j m
      exact ih (r + 1) m (by omega) (by omega) (by omega) (by omega)
  refine b_ga_knownSet_0 hX ha ?_
  rw [q2 j hj]
  have := lastF_le (gI X 79) j (N 5)
  exact loop 300 0 (N 5) rfl (by omega) (Nat.min_le_right _ _) (Nat.le_refl _)
theorem s_mo_knownOf (h : Inv N S X) {j k : Nat} (hj : j < S.1) (hk : k < 2 ^ 31) : Ev E m_mo_knownOf 0 [(0, .ref 55), (1, .int (nI j)), (2, .int (nI k))] [] X (0, 0) (gp_q (some (.int (kwS N S X j k))) X) := by
  obtain ⟨⟨k1, k2, k3⟩, q1, q2⟩ := h.sur
  have hX := h.lay
  have l := l40 hX
  have loop : ∀ (n : Nat), n ≤ N 5 → lastF (gI X 79) j n = lastF (gI X 79) j (min k (N 5)) → Ev E m_mo_knownOf 19 [(0, .ref 55), (1, .int (nI j)), (2, .int (nI k)), (3, .int (nI n - 1))] [] X (0, 0) (gp_q (some (.int (kwS N S X j k))) X) := by
    intro n
    induction n with
    | zero =>
      intro _ e
      refine b_mo_knownOf_19 hX ⟨fun _ => ⟨?_, rfl⟩, fun z => absurd (by decide) z⟩
      unfold kwS
      rw [← e, h.mod.1.2]; rfl
    | succ n ih =>
      intro hn e
      rw [nI_pred]
      refine b_mo_knownOf_19 hX ⟨fun z => absurd z (nI_pos (by omega)), fun _ => ⟨vin (by omega) (by omega), ?_⟩⟩
      rw [nI_c (by omega), ← Int32.sub_eq_add_neg]
      refine ⟨fun c => ih (by omega) ?_, fun c => ⟨?_, rfl⟩⟩
      · rw [← e]
        show _ = (if gI X 79 n = nI j then n + 1 else lastF (gI X 79) j n)
        rw [if_neg c]
      · unfold kwS
        rw [← e]
        have e9 : lastF (gI X 79) j (n + 1) = n + 1 := if_pos c
        rw [e9, if_neg (by omega), Nat.add_sub_cancel]
  refine b_mo_knownOf_0 hX ?_
  rw [k2]
  refine ⟨fun c => loop (N 5) (Nat.le_refl _) ?_, fun c => loop k ?_ ?_⟩
  · have : N 5 ≤ k := (nI_leI (by omega) hk).mp c
    rw [Nat.min_eq_right this]
  · have : ¬ N 5 ≤ k := fun y => c ((nI_leI (by omega) hk).mpr y)
    omega
  · have : ¬ N 5 ≤ k := fun y => c ((nI_leI (by omega) hk).mpr y)
    rw [Nat.min_eq_left (by omega)]
end KN
theorem p_known {E : gp_E} {N : Nat → Nat} {S : gp_S} {X : gp_H} (h : Inv N S X) (x1 x2 : Int32) : Ev E m_ga_known 0 [(0, .ref 0), (1, .int x1), (2, .int x2)] [] X (0, 0) (gp_two E m_mo_known [(0, .ref 55), (1, .int x1), (2, .int x2)]) := by
  have hL := h.lay
  have k2 := h.hom.1.2
  have l := l40 hL
  have R := fun {Q} => b_mo_known_0 (E := E) (x1 := x1) (x2 := x2) (Q := Q) hL
  rw [k2] at R
  refine b_ga_known_0 hL (wh_home h (fun j hj e => ?_) (fun c1 => ⟨_, S, rfl, hL, R ⟨fun _ => ⟨rfl, N, h⟩, fun z => bnf c1 z⟩⟩))
  subst e
  have c1 := iw_of hj (show S.1 ≤ 100000 by omega)
  refine ⟨fun c => ?_, fun c => ⟨_, S, rfl, hL, R ⟨fun z => bne c1 z, fun _ => ⟨fun _ => ⟨rfl, N, h⟩, fun z => absurd (Int32.not_lt.mp z) c⟩⟩⟩⟩
  have c' : ¬ x2 < 0 := Int32.not_lt.mpr c
  obtain ⟨k, hk, rfl⟩ := nI_of c'
  exact wh_i (s_ga_knownSet h hj hk) hL ⟨(hm_at hL hj).2, _, S, rfl, hL, R ⟨fun z => bne c1 z, fun _ => ⟨fun z => absurd z c', fun _ => wh_i (s_mo_knownOf h hj hk) hL ⟨rfl, N, h⟩⟩⟩⟩
section ND
variable {E : gp_E} {N : Nat → Nat} {S : gp_S} {X Y : gp_H}
def taF (X : gp_H) (jt : Int32) (m : Nat) : Int32 := if gI X 66 m = jt then gI X 67 m else 0
def tkL (X : gp_H) (s jt : Int32) : Nat → Int32
  | 0 => 9
  | m + 1 => if gb s (nI m) = true then (if taF X jt m < tkL X s jt m then taF X jt m else tkL X s jt m) else tkL X s jt m
def tkG (X : gp_H) (s jt : Int32) : Nat → Int32
  | 0 => 0
  | m + 1 => if gb s (nI m) = true then (if tkG X s jt m < taF X jt m then taF X jt m else tkG X s jt m) else tkG X s jt m
def tkS (S : gp_S) (X : gp_H) (s jt o : Int32) : Int32 := if o = 0 then tkL X s jt S.2.1 else tkG X s jt S.2.1
theorem md_at (h : Lay S X) {j : Nat} (hj : j < S.2.1) : X.2.2.1 15 j = some (S.2.2.2.1 j) ∧ gp_at X (S.2.2.2.1 j) (S.2.2.2.2.1 j, 0) ∧ (S.2.2.2.2.1 j < 13 ∧ gp_gid (S.2.2.2.2.1 j) = 7) := ⟨(h.2.2.2.1 j hj).1, (h.2.2.2.1 j hj).2.1, (h.2.2.2.1 j hj).2.2.2.2⟩
theorem s_ga_takenBy (h : Inv N S X) (s jt o : Int32) : Ev E m_ga_takenBy 0 [(0, .ref 0), (1, .int s), (2, .int jt), (3, .int o)] [] X (0, 0) (gp_q (some (.int (tkS S X s jt o))) X) := by
  obtain ⟨⟨k1, k2⟩, q⟩ := h.mod
  have hX := h.lay
  have l := l12 hX
  refine b_ga_takenBy_0 hX ?_
  refine dn (P := fun k => Ev E m_ga_takenBy 10 [(0, .ref 0), (1, .int s), (2, .int jt), (3, .int o), (4, .int (tkL X s jt k)), (5, .int (tkG X s jt k)), (6, .int (nI k))] [] X (0, 0) (gp_q (some (.int (tkS S X s jt o))) X)) (n := S.2.1) ?_ ?_
  · refine b_ga_takenBy_10 hX ⟨fun _ => ⟨fun c => ⟨by unfold tkS; rw [if_pos c], rfl⟩, fun c => ⟨by unfold tkS; rw [if_neg c], rfl⟩⟩, fun z => absurd (by rw [k1]; exact Int32.le_refl _) z⟩
  · intro k hk ih
    obtain ⟨⟨m1, m2, m3, m4, m5, m6⟩, -⟩ := q k hk
    obtain ⟨r1, r2, r3⟩ := md_at hX hk
    have tk : Ev E m_ri_takes 0 [(0, .ref (S.2.2.2.1 k)), (1, .int jt)] [] X (0, 0) (gp_q (some (.int (taF X jt k))) X) := by
      refine b_ri_takes_0 hX r2 r3 ?_
      rw [m2, m3]
      exact ⟨fun c => ⟨by unfold taF; rw [if_neg (fun z => c z.symm)], rfl⟩, fun c => ⟨by unfold taF; rw [if_pos c.symm], rfl⟩⟩
    refine b_ga_takenBy_10 hX ⟨fun z => absurd z (by rw [k1]; exact nI_nge hk (by omega)), fun _ => ⟨fun c => ?_, fun c => ?_⟩⟩
    · refine ⟨vin (by omega) (by omega), _, _, by rw [nI_c (by omega)]; exact r1, r2, r3, _, ⟨fun _ => tk, fun _ => tk, fun _ => tk, fun _ => tk⟩, fun r X' hq => ?_⟩
      obtain ⟨rfl, rfl⟩ := hq
      refine ⟨_, rfl, hX, r2, ?_⟩
      have e1 : tkL X s jt (k + 1) = if taF X jt k < tkL X s jt k then taF X jt k else tkL X s jt k := if_pos c
      have e2 : tkG X s jt (k + 1) = if tkG X s jt k < taF X jt k then taF X jt k else tkG X s jt k := if_pos c
      rw [e1, e2] at ih
      rw [nI_s]; exact ih
    · have e1 : tkL X s jt (k + 1) = tkL X s jt k := if_neg (fun z => bnf c z)
      have e2 : tkG X s jt (k + 1) = tkG X s jt k := if_neg (fun z => bnf c z)
      rw [e1, e2] at ih
      rw [nI_s]; exact ih
theorem ta_nat (h : Inv N S X) {m : Nat} (hm : m < S.2.1) (jt : Int32) : ∃ t, t ≤ 9 ∧ taF X jt m = nI t := by
  obtain ⟨-, a, b, c, d, p1, p2, p3, p4, p5, -⟩ := h.mod.2 m hm
  unfold taF
  split
  · exact ⟨b, p4, p5⟩
  · exact ⟨0, by omega, rfl⟩
theorem tk_nat (h : Inv N S X) (s jt : Int32) : ∀ m, m ≤ S.2.1 → (∃ t, t ≤ 9 ∧ tkL X s jt m = nI t) ∧ (∃ t, t ≤ 9 ∧ tkG X s jt m = nI t)
  | 0, _ => ⟨⟨9, by omega, rfl⟩, ⟨0, by omega, rfl⟩⟩
  | m + 1, hm => by
    obtain ⟨a, b⟩ := tk_nat h s jt m (by omega)
    have c := ta_nat h (show m < S.2.1 by omega) jt
    unfold tkL tkG
    constructor
    · split
      · split
        · exact c
        · exact a
      · exact a
    · split
      · split
        · exact c
        · exact b
      · exact b
/-- the reference's walk over the models -/
theorem nd_loop (h : Inv N S X) {x1 jt x3 o x5 x6 s : Int32} {Q : Option Value → gp_H → Prop} (hs : ∃ m, m < S.2.1 ∧ gb s (nI m) = true) (K : Ev E m_mo_needOf 6 [(0, .ref 55), (1, .int x1), (2, .int jt), (3, .int x3), (4, .int o), (5, .int (x5 + tkS S X s jt o)), (6, .int (x6 + 1))] [] X (0, 0) Q) : Ev E m_mo_needOf 49 [(0, .ref 55), (1, .int x1), (2, .int jt), (3, .int x3), (4, .int o), (5, .int x5), (6, .int x6), (7, .int s), (8, .int (-1)), (9, .int 0)] [] X (0, 0) Q := by
  obtain ⟨⟨k1, k2⟩, q⟩ := h.mod
  have hX := h.lay
  have l := l12 hX
  -- v is told by what was seen
  have go : ∀ (d m : Nat) (v : Int32), d + m = S.2.1 → ((v = -1 ∧ ∀ i, i < m → gb s (nI i) = false) ∨ ((∃ i, i < m ∧ gb s (nI i) = true) ∧ v = if o = 0 then tkL X s jt m else tkG X s jt m)) → Ev E m_mo_needOf 49 [(0, .ref 55), (1, .int x1), (2, .int jt), (3, .int x3), (4, .int o), (5, .int x5), (6, .int x6), (7, .int s), (8, .int v), (9, .int (nI m))] [] X (0, 0) Q := by
    intro d
    induction d with
    | zero =>
      intro m v hm hv
      obtain rfl : m = S.2.1 := by omega
      refine b_mo_needOf_49 hX ⟨fun _ => ?_, fun z => absurd (by rw [k2]; exact Int32.le_refl _) z⟩
      rcases hv with ⟨_, a⟩ | ⟨_, b⟩
      · obtain ⟨i, hi, c⟩ := hs
        exact bne c (a i hi)
      · rw [b]; exact K
    | succ d ih =>
      intro m v hm hv
      have hl : m < S.2.1 := by omega
      obtain ⟨t, ht, et⟩ := ta_nat h hl jt
      obtain ⟨⟨tl, htl, etl⟩, tg, htg, etg⟩ := tk_nat h s jt m (by omega)
      have eL : gb s (nI m) = true → tkL X s jt (m + 1) = if taF X jt m < tkL X s jt m then taF X jt m else tkL X s jt m := fun c => if_pos c
      have eG : gb s (nI m) = true → tkG X s jt (m + 1) = if tkG X s jt m < taF X jt m then taF X jt m else tkG X s jt m := fun c => if_pos c
      -- nothing seen before: the least is 9, the greatest 0
      have z0 : (∀ i, i < m → gb s (nI i) = false) → tkL X s jt m = 9 ∧ tkG X s jt m = 0 := by
        intro a
        have : ∀ n, n ≤ m → tkL X s jt n = 9 ∧ tkG X s jt n = 0 := by
          intro n
          induction n with
          | zero => intro _; exact ⟨rfl, rfl⟩
          | succ n ihn =>
            intro hn
            have b := ihn (by omega)
            have c := a n (by omega)
            exact ⟨(if_neg (fun z => bnf c z)).trans b.1, (if_neg (fun z => bnf c z)).trans b.2⟩
        exact this m (Nat.le_refl _)
      have e115 : ∀ w : Int32, (gb s (nI m) = true → ¬ w = 0 → taF X jt m = if o = 0 then tkL X s jt (m + 1) else tkG X s jt (m + 1)) → (gb s (nI m) = true → w = 0 → (∃ i, i < m ∧ gb s (nI i) = true) ∧ v = if o = 0 then tkL X s jt (m + 1) else tkG X s jt (m + 1)) → Ev E m_mo_needOf 115 [(0, .ref 55), (1, .int x1), (2, .int jt), (3, .int x3), (4, .int o), (5, .int x5), (6, .int x6), (7, .int s), (8, .int v), (9, .int (nI m)), (10, .int (taF X jt m))] [.int w] X (0, 0) Q := by
        intro w a1 a0
        refine b_mo_needOf_115 hX ⟨fun c => ?_, fun c => ⟨fun c2 => ?_, fun c2 => ?_⟩⟩
        · rw [nI_s]
          refine ih (m + 1) v (by omega) ?_
          have f1 : tkL X s jt (m + 1) = tkL X s jt m := if_neg (fun z => bnf c z)
          have f2 : tkG X s jt (m + 1) = tkG X s jt m := if_neg (fun z => bnf c z)
          rcases hv with ⟨a, b⟩ | ⟨⟨i, hi, a⟩, b⟩
          · refine Or.inl ⟨a, fun i hi => ?_⟩
            rcases Nat.lt_or_ge i m with z | z
            · exact b i z
            · rw [show i = m by omega]; exact c
          · exact Or.inr ⟨⟨i, by omega, a⟩, by rw [f1, f2]; exact b⟩
        · rw [nI_s]
          obtain ⟨⟨i, hi, a⟩, b⟩ := a0 c c2
          exact ih (m + 1) v (by omega) (Or.inr ⟨⟨i, by omega, a⟩, b⟩)
        · rw [nI_s]
          exact ih (m + 1) _ (by omega) (Or.inr ⟨⟨m, by omega, c⟩, a1 c c2⟩)
      have nv : ¬ v = -1 → (∃ i, i < m ∧ gb s (nI i) = true) ∧ v = if o = 0 then tkL X s jt m else tkG X s jt m := fun z => by
        rcases hv with ⟨a, _⟩ | b
        · exact absurd a z
        · exact b
      have m1 : v = -1 → ∀ i, i < m → gb s (nI i) = false := fun z => by
        rcases hv with ⟨_, a⟩ | ⟨_, b⟩
        · exact a
        · exfalso
          rw [b] at z
          have ne : ∀ n : Nat, n ≤ 9 → ¬ nI n = -1 := fun n hn y => by
            have := congrArg Int32.toInt y
            rw [nI_toInt (by omega)] at this
            exact absurd this (by rw [show (-1 : Int32).toInt = -1 from by decide]; omega)
          split at z
          · rw [etl] at z; exact ne tl htl z
          · rw [etg] at z; exact ne tg htg z
      have e80 : Ev E m_mo_needOf 80 [(0, .ref 55), (1, .int x1), (2, .int jt), (3, .int x3), (4, .int o), (5, .int x5), (6, .int x6), (7, .int s), (8, .int v), (9, .int (nI m))] [.int (taF X jt m)] X (0, 0) Q := by
        have y110 : (gb s (nI m) = true → taF X jt m = if o = 0 then tkL X s jt (m + 1) else tkG X s jt (m + 1)) → Ev E m_mo_needOf 110 [(0, .ref 55), (1, .int x1), (2, .int jt), (3, .int x3), (4, .int o), (5, .int x5), (6, .int x6), (7, .int s), (8, .int v), (9, .int (nI m)), (10, .int (taF X jt m))] [] X (0, 0) Q := fun a => b_mo_needOf_110 hX (e115 1 (fun c _ => a c) (fun _ z => absurd z (by decide)))
        have n114 : (gb s (nI m) = true → (∃ i, i < m ∧ gb s (nI i) = true) ∧ v = if o = 0 then tkL X s jt (m + 1) else tkG X s jt (m + 1)) → Ev E m_mo_needOf 114 [(0, .ref 55), (1, .int x1), (2, .int jt), (3, .int x3), (4, .int o), (5, .int x5), (6, .int x6), (7, .int s), (8, .int v), (9, .int (nI m)), (10, .int (taF X jt m))] [] X (0, 0) Q := fun a => b_mo_needOf_114 hX (e115 0 (fun _ z => absurd rfl z) (fun c _ => a c))
        refine b_mo_needOf_80 hX ⟨fun z => y110 (fun c => ?_), fun z => ⟨fun z2 => ⟨fun z3 => n114 (fun c => ?_), fun z3 => y110 (fun c => ?_)⟩, fun z2 => ⟨fun z3 => n114 (fun c => ?_), fun z3 => y110 (fun c => ?_)⟩⟩⟩
        · obtain ⟨f1, f2⟩ := z0 (m1 z)
          rw [eL c, eG c, f1, f2, et]
          split
          · by_cases y : t < 9
            · rw [if_pos (show nI t < 9 from nI_lt (b := 9) y (by omega))]
            · rw [if_neg (show ¬ nI t < 9 from fun y2 => y ((nI_ltI (b := 9) (by omega) (by omega)).mp y2)), show t = 9 by omega]; rfl
          · by_cases y : 0 < t
            · rw [if_pos (show 0 < nI t from nI_lt (a := 0) y (by omega))]
            · rw [if_neg (show ¬ 0 < nI t from fun y2 => y ((nI_ltI (a := 0) (by omega) (by omega)).mp y2)), show t = 0 by omega]; rfl
        · obtain ⟨a, b⟩ := nv z
          refine ⟨a, ?_⟩
          rw [if_pos z2] at b ⊢
          rw [eL c, ← b, if_neg (fun y => Int32.lt_irrefl (Int32.lt_of_lt_of_le y z3))]
        · obtain ⟨a, b⟩ := nv z
          rw [if_pos z2] at b ⊢
          rw [eL c, ← b, if_pos (Int32.not_le.mp z3)]
        · obtain ⟨a, b⟩ := nv z
          refine ⟨a, ?_⟩
          rw [if_neg z2] at b ⊢
          rw [eG c, ← b, if_neg (fun y => Int32.lt_irrefl (Int32.lt_of_lt_of_le y z3))]
        · obtain ⟨a, b⟩ := nv z
          rw [if_neg z2] at b ⊢
          rw [eG c, ← b, if_pos (Int32.not_le.mp z3)]
      refine b_mo_needOf_49 hX ⟨fun z => absurd z (by rw [k2]; exact nI_nge hl (by omega)), fun _ => ⟨vin (by omega) (by omega), ?_⟩⟩
      rw [nI_c (by omega)]
      refine ⟨fun c => ?_, fun c => ?_⟩
      · have : taF X jt m = 0 := if_neg c
        rw [this] at e80; exact e80
      · have : taF X jt m = gI X 67 m := if_pos c
        rw [this] at e80; exact e80
  exact go S.2.1 0 (-1) rfl (Or.inl ⟨rfl, fun i hi => absurd hi (Nat.not_lt_zero _)⟩)
/-- what is known of a home is not nothing -/
theorem kw_some (h : Inv N S X) {j k : Nat} (hj : j < S.1) : ∃ m, m < S.2.1 ∧ gb (kwS N S X j k) (nI m) = true := by
  obtain ⟨⟨k1, k2, k3⟩, q1, q2⟩ := h.sur
  have l := l12 h.lay
  have hm := (h.lay.2.2.2.2.1 j hj).2.2.2.2
  unfold kwS
  split
  · exact ⟨0, by omega, by rw [gb_bt _ (by omega), bt_all S.2.1 (by omega) 0 (by omega)]; exact decide_eq_true (by omega)⟩
  · rename_i z
    have d := lastF_le (gI X 79) j (min k (N 5))
    obtain ⟨-, -, a, b⟩ := q1 (lastF (gI X 79) j (min k (N 5)) - 1) (by omega)
    have lo := (low_lt (n := S.2.1) (by omega)).mpr ⟨Int32.le_of_lt a, b⟩
    apply Classical.byContradiction
    intro no
    have : gI X 80 (lastF (gI X 79) j (min k (N 5)) - 1) = 0 := low_ext lo (low_0 _) (fun i hi => by
      rw [b_0]
      cases y : bt (gI X 80 (lastF (gI X 79) j (min k (N 5)) - 1)) i with
      | false => rfl
      | true => exact absurd ⟨i, hi, by rw [gb_bt _ (by omega)]; exact y⟩ no)
    rw [this] at a
    exact Int32.lt_irrefl a
def ndF (N : Nat → Nat) (S : gp_S) (X : gp_H) (s jt : Int32) (k : Nat) (o : Int32) (j : Nat) : Int32 := if gb s (gI X 70 j) = true then tkS S X (kwS N S X j k) jt o else 0
def ndS (N : Nat → Nat) (S : gp_S) (X : gp_H) (s jt : Int32) (k : Nat) (o : Int32) : Int32 := sm (ndF N S X s jt k o) S.1
theorem s_ga_needOf (h : Inv N S X) (s jt o : Int32) {k : Nat} (hk : k < 2 ^ 31) : Ev E m_ga_needOf 0 [(0, .ref 0), (1, .int s), (2, .int jt), (3, .int (nI k)), (4, .int o)] [] X (0, 0) (gp_q (some (.int (ndS N S X s jt k o))) X) := by
  obtain ⟨⟨k1, k2⟩, q⟩ := h.hom
  have hX := h.lay
  have l := l40 hX
  refine b_ga_needOf_0 hX ?_
  refine dn (P := fun j => Ev E m_ga_needOf 6 [(0, .ref 0), (1, .int s), (2, .int jt), (3, .int (nI k)), (4, .int o), (5, .int (sm (ndF N S X s jt k o) j)), (6, .int (nI j))] [] X (0, 0) (gp_q (some (.int (ndS N S X s jt k o))) X)) (n := S.1) ?_ ?_
  · exact b_ga_needOf_6 hX ⟨fun _ => ⟨rfl, rfl⟩, fun z => absurd (by rw [k1]; exact Int32.le_refl _) z⟩
  · intro j hj ih
    obtain ⟨r1, r2⟩ := hm_at hX hj
    have rr : X.2.2.1 16 (Int32.toNatClampNeg (nI j)) = some (S.2.2.1 j) := by rw [nI_c (by omega)]; exact r1
    have vi : vp_in (nI j) 40 := vin (by omega) (by omega)
    refine b_ga_needOf_6 hX ⟨fun z => absurd z (by rw [k1]; exact nI_nge hj (by omega)), fun _ => ⟨vi, _, rr, r2, ?_⟩⟩
    rw [(q j hj).1.1]
    refine ⟨fun c => ?_, fun c => ⟨vi, _, rr, r2, wh_i (s_ga_knownSet h hj hk) hX (wh_i (s_ga_takenBy h _ _ _) hX ?_)⟩⟩
    · rw [sm_0 (if_neg (fun z => bnf c z))] at ih; rw [nI_s]; exact ih
    · rw [sm_1 (if_pos c)] at ih; rw [nI_s]; exact ih
theorem s_mo_needOf (h : Inv N S X) (jt o : Int32) {s k : Nat} (hs : s < N 7) (hk : k < 2 ^ 31) : Ev E m_mo_needOf 0 [(0, .ref 55), (1, .int (nI s)), (2, .int jt), (3, .int (nI k)), (4, .int o)] [] X (0, 0) (gp_q (some (.int (ndS N S X (gI X 85 s) jt k o))) X) := by
  obtain ⟨⟨k1, k2⟩, q⟩ := h.hom
  have s7 := h.sec.1.2.2
  have hX := h.lay
  have l := l40 hX
  refine b_mo_needOf_0 hX ?_
  refine dn (P := fun j => Ev E m_mo_needOf 6 [(0, .ref 55), (1, .int (nI s)), (2, .int jt), (3, .int (nI k)), (4, .int o), (5, .int (sm (ndF N S X (gI X 85 s) jt k o) j)), (6, .int (nI j))] [] X (0, 0) (gp_q (some (.int (ndS N S X (gI X 85 s) jt k o))) X)) (n := S.1) ?_ ?_
  · exact b_mo_needOf_6 hX ⟨fun _ => ⟨rfl, rfl⟩, fun z => absurd (by rw [k2]; exact Int32.le_refl _) z⟩
  · intro j hj ih
    refine b_mo_needOf_6 hX ⟨fun z => absurd z (by rw [k2]; exact nI_nge hj (by omega)), fun _ => ⟨vin (by omega) (by omega), vin (by omega) (by omega), ?_⟩⟩
    rw [nI_c (k := s) (by omega), nI_c (k := j) (by omega)]
    refine ⟨fun c => ?_, fun c => wh_i (s_mo_knownOf h hj hk) hX (nd_loop h (kw_some h hj) ?_)⟩
    · rw [sm_0 (if_neg (fun z => bnf c z))] at ih; rw [nI_s]; exact ih
    · rw [sm_1 (if_pos c)] at ih; rw [nI_s]; exact ih
end ND
theorem p_need {E : gp_E} {N : Nat → Nat} {S : gp_S} {X : gp_H} (h : Inv N S X) (x1 x2 x3 x4 : Int32) : Ev E m_ga_need 0 [(0, .ref 0), (1, .int x1), (2, .int x2), (3, .int x3), (4, .int x4)] [] X (0, 0) (gp_two E m_mo_need [(0, .ref 55), (1, .int x1), (2, .int x2), (3, .int x3), (4, .int x4)]) := by
  have hL := h.lay
  obtain ⟨⟨s1, s2, s3⟩, t1, -⟩ := h.sec
  have R := fun {Q} => b_mo_need_0 (E := E) (x1 := x1) (x2 := x2) (x3 := x3) (x4 := x4) (Q := Q) hL
  rw [s2] at R
  refine b_ga_need_0 hL ?_
  rw [s1, ifl_iw]
  have no : Ev E m_mo_need 35 [(0, .ref 55), (1, .int x1), (2, .int x2), (3, .int x3), (4, .int x4)] [] X (0, 0) (fun r2 X2 => r2 = some (.int (-5)) ∧ ∃ N, Inv N S X2) := b_mo_need_35 hL (b_mo_need_36 hL ⟨fun _ => ⟨rfl, N, h⟩, fun z => absurd rfl z⟩)
  refine ⟨fun c1 => ⟨_, S, rfl, hL, R ⟨fun _ => no, fun z => bnf c1 z⟩⟩, fun c1 => ⟨fun c2 => ⟨_, S, rfl, hL, R ⟨fun z => bne c1 z, fun _ => ⟨fun _ => no, fun z => bnf c2 z⟩⟩⟩, fun c2 => ⟨fun c3 => ⟨_, S, rfl, hL, R ⟨fun z => bne c1 z, fun _ => ⟨fun z => bne c2 z, fun _ => ⟨fun _ => no, fun z => absurd c3 z⟩⟩⟩⟩, fun c3 => ⟨fun c4 => ?_, fun c4 => ⟨_, S, rfl, hL, R ⟨fun z => bne c1 z, fun _ => ⟨fun z => bne c2 z, fun _ => ⟨fun z => absurd z c3, fun _ => ⟨fun _ => no, fun z => bnf c4 z⟩⟩⟩⟩⟩⟩⟩⟩⟩
  obtain ⟨s, hs, rfl⟩ := iw_nI (by omega) c1
  obtain ⟨k, hk, rfl⟩ := nI_of c3
  rw [nI_c (k := s) (by omega), t1 s]
  refine ⟨vin (by omega) (by omega), fun c5 => wh_i (s_ga_needOf h _ _ _ hk) hL ?_, fun c5 => wh_i (s_ga_needOf h _ _ _ hk) hL ?_⟩
  · exact ⟨_, S, rfl, hL, R ⟨fun z => bne c1 z, fun _ => ⟨fun z => bne c2 z, fun _ => ⟨fun z => absurd z c3, fun _ => ⟨fun z => bne c4 z, fun _ => b_mo_need_36 hL ⟨fun z => absurd z (by decide), fun _ => ⟨fun _ => wh_i (s_mo_needOf h _ _ hs hk) hL ⟨rfl, N, h⟩, fun z => absurd z c5⟩⟩⟩⟩⟩⟩⟩
  · exact ⟨_, S, rfl, hL, R ⟨fun z => bne c1 z, fun _ => ⟨fun z => bne c2 z, fun _ => ⟨fun z => absurd z c3, fun _ => ⟨fun z => bne c4 z, fun _ => b_mo_need_36 hL ⟨fun z => absurd z (by decide), fun _ => ⟨fun z => absurd c5 z, fun _ => wh_i (s_mo_needOf h _ _ hs hk) hL ⟨rfl, N, h⟩⟩⟩⟩⟩⟩⟩⟩
