section FAR
variable {E : gp_E} {N : Nat → Nat} {S : gp_S} {X Y : gp_H}
/-- one pipe further -/
def frF (X : gp_H) (v : Int32) (p : Nat) : Int32 := if gb v (gI X 56 p) = true ∨ gb v (gI X 57 p) = true then ((1 : Int32) <<< (gI X 56 p &&& 31)) ||| ((1 : Int32) <<< (gI X 57 p &&& 31)) else 0
def frW (N : Nat → Nat) (X : gp_H) (v : Int32) : Int32 := v ||| orF (frF X v) (N 1)
def frV (N : Nat → Nat) (X : gp_H) (e : Int32) : Nat → Nat → Int32 → Int32
  | 0, _, _ => -1
  | d + 1, n, v => if gb v e = true then nI n else frV N X e d (n + 1) (frW N X v)
theorem fr_near (h : Inv N S X) (v : Int32) : v ||| orF (fun k => if gb v (nI k) = true then gI X 6 k else 0) (N 0) = frW N X v := by
  obtain ⟨⟨n1, n2, n3⟩, ⟨k1, k2, k3⟩, q1, q2, q3, q4, q5, -⟩ := h.net
  refine b_ext (fun i hi => bt_iff ?_)
  unfold frW
  rw [b_or, b_or, Bool.or_eq_true, Bool.or_eq_true, or_bt, or_bt]
  have fp : ∀ p, p < N 1 → (bt (frF X v p) i = true ↔ (bt v (pA X p) = true ∨ bt v (pB X p) = true) ∧ (i = pA X p ∨ i = pB X p)) := fun p hp => by
    obtain ⟨a1, a2, a3, a4, a5, a6⟩ := pAB h hp
    unfold frF
    rw [a5, a6, gb_bt _ (by omega), gb_bt _ (by omega)]
    by_cases z : bt v (pA X p) = true ∨ bt v (pB X p) = true
    · rw [if_pos z, b_or, bt_shl (by omega) hi, bt_shl (by omega) hi, Bool.or_eq_true, decide_eq_true_eq, decide_eq_true_eq]
      exact ⟨fun q => ⟨z, q⟩, fun q => q.2⟩
    · rw [if_neg z, b_0]
      exact ⟨fun q => absurd q (by decide), fun q => absurd q.1 z⟩
  constructor
  · rintro (a | ⟨k, hk, a⟩)
    · exact Or.inl a
    · rw [gb_bt _ (by omega)] at a
      by_cases z : bt v k = true
      · rw [if_pos z, q5 k (by omega), near_bt h _ (by omega) hi (N 1) (Nat.le_refl _)] at a
        obtain ⟨p, hp, -, c⟩ := a
        refine Or.inr ⟨p, hp, (fp p hp).mpr ?_⟩
        rcases c with ⟨c1, c2⟩ | ⟨c1, c2⟩
        · exact ⟨Or.inl (by rw [← c1]; exact z), Or.inr c2⟩
        · exact ⟨Or.inr (by rw [← c1]; exact z), Or.inl c2⟩
      · rw [if_neg z, b_0] at a; exact absurd a (by decide)
  · rintro (a | ⟨p, hp, a⟩)
    · exact Or.inl a
    · obtain ⟨a1, a2, a3, a4, a5, a6⟩ := pAB h hp
      obtain ⟨c1, c2⟩ := (fp p hp).mp a
      have go : ∀ k, k < N 0 → bt v k = true → ((k = pA X p ∧ i = pB X p) ∨ (k = pB X p ∧ i = pA X p)) → ∃ w, w < N 0 ∧ bt (if gb v (nI w) = true then gI X 6 w else 0) i = true := fun k hk z c => ⟨k, hk, by
        rw [gb_bt _ (by omega), if_pos z, q5 k (by omega), near_bt h _ (by omega) hi (N 1) (Nat.le_refl _)]
        exact ⟨p, hp, by decide, c⟩⟩
      rcases c1 with c1 | c1 <;> rcases c2 with c2 | c2
      · exact Or.inl (by rw [c2]; exact c1)
      · exact Or.inr (go _ a1 c1 (Or.inl ⟨rfl, c2⟩))
      · exact Or.inr (go _ a2 c1 (Or.inr ⟨rfl, c2⟩))
      · exact Or.inl (by rw [c2]; exact c1)
theorem far_c (h : Inv N S X) {x1 e : Int32} : ∀ (d n : Nat) (v : Int32), d + n = 12 → Ev E m_ne_fewestPipes 7 [(0, .ref 1), (1, .int x1), (2, .int e), (3, .int v), (4, .int (nI n))] [] X (0, 0) (gp_q (some (.int (frV N X e d n v))) X) := by
  have hX := h.lay
  have hn := h.net.1
  intro d
  induction d with
  | zero =>
    intro n v hd
    obtain rfl : n = 12 := by omega
    exact b_ne_fewestPipes_7 hX ⟨fun _ => ⟨rfl, rfl⟩, fun z => absurd (Int32.le_refl _) z⟩
  | succ d ih =>
    intro n v hd
    refine b_ne_fewestPipes_7 hX ⟨fun z => absurd z (nI_nge (a := n) (b := 12) (by omega) (by omega)), fun _ => ⟨fun c => ?_, fun c => ⟨congrArg (fun z => some (Value.int z)) (if_pos c), rfl⟩⟩⟩
    have e1 : frV N X e (d + 1) n v = frV N X e d (n + 1) (frW N X v) := if_neg (fun z => bnf c z)
    rw [e1, ← fr_near h v]
    have key := dn (P := fun k => Ev E m_ne_fewestPipes 31 [(0, .ref 1), (1, .int x1), (2, .int e), (3, .int v), (4, .int (nI n)), (5, .int (v ||| orF (fun k => if gb v (nI k) = true then gI X 6 k else 0) k)), (6, .int (nI k))] [] X (0, 0) (gp_q (some (.int (frV N X e d (n + 1) (v ||| orF (fun k => if gb v (nI k) = true then gI X 6 k else 0) (N 0))))) X)) (n := N 0) (by
      refine b_ne_fewestPipes_31 hX ⟨fun _ => ?_, fun z => absurd (by rw [hn.1]; exact Int32.le_refl _) z⟩
      rw [nI_s]
      exact ih (n + 1) _ (by omega)) (fun k hk ihk => by
      refine b_ne_fewestPipes_31 hX ⟨fun z => absurd z (by rw [hn.1]; exact nI_nge hk (by omega)), fun _ => ⟨fun c => ?_, fun c => ⟨vin (by omega) (by omega), ?_⟩⟩⟩
      · rw [or_0 (if_neg (fun z => bnf c z))] at ihk; rw [nI_s]; exact ihk
      · rw [or_1 (if_pos c), ← Int32.or_assoc] at ihk; rw [nI_s, nI_c (by omega)]; exact ihk)
    have e0 : v ||| orF (fun k => if gb v (nI k) = true then gI X 6 k else 0) 0 = v := Int32.or_zero
    simp only [e0] at key
    exact key
theorem far_r (h : Inv N S X) (hX : Lay S Y) (g : Rf X Y) {x1 e : Int32} : ∀ (d n : Nat) (v : Int32), d + n = 12 → Ev E m_mo_far 7 [(0, .ref 55), (1, .int x1), (2, .int e), (3, .int v), (4, .int (nI n))] [] Y (0, 0) (gp_q (some (.int (frV N X e d n v))) Y) := by
  obtain ⟨-, ⟨k1, k2, k3⟩, -⟩ := h.net
  intro d
  induction d with
  | zero =>
    intro n v hd
    obtain rfl : n = 12 := by omega
    exact b_mo_far_7 hX ⟨fun _ => ⟨rfl, rfl⟩, fun z => absurd (Int32.le_refl _) z⟩
  | succ d ih =>
    intro n v hd
    refine b_mo_far_7 hX ⟨fun z => absurd z (nI_nge (a := n) (b := 12) (by omega) (by omega)), fun _ => ⟨fun c => ?_, fun c => ⟨congrArg (fun z => some (Value.int z)) (if_pos c), rfl⟩⟩⟩
    have e1 : frV N X e (d + 1) n v = frV N X e d (n + 1) (frW N X v) := if_neg (fun z => bnf c z)
    rw [e1]
    have key := dn (P := fun k => Ev E m_mo_far 31 [(0, .ref 55), (1, .int x1), (2, .int e), (3, .int v), (4, .int (nI n)), (5, .int (v ||| orF (frF X v) k)), (6, .int (nI k))] [] Y (0, 0) (gp_q (some (.int (frV N X e d (n + 1) (v ||| orF (frF X v) (N 1))))) Y)) (n := N 1) (by
      refine b_mo_far_31 hX ⟨fun _ => ?_, fun z => absurd (by rw [g 55 1 rfl, k2]; exact Int32.le_refl _) z⟩
      rw [nI_s]
      exact ih (n + 1) _ (by omega)) (fun k hk ihk => by
      have hit : (gb v (gI X 56 k) = true ∨ gb v (gI X 57 k) = true) → Ev E m_mo_far 70 [(0, .ref 55), (1, .int x1), (2, .int e), (3, .int v), (4, .int (nI n)), (5, .int (v ||| orF (frF X v) k)), (6, .int (nI k))] [.int (v ||| orF (frF X v) k)] Y (0, 0) (gp_q (some (.int (frV N X e d (n + 1) (v ||| orF (frF X v) (N 1))))) Y) := fun c => by
        refine b_mo_far_70 hX ⟨vin (by omega) (by omega), ?_⟩
        rw [or_1 (if_pos c), ← Int32.or_assoc] at ihk
        rw [nI_s, nI_c (by omega), g 56 _ rfl, g 57 _ rfl]
        exact ihk
      refine b_mo_far_31 hX ⟨fun z => absurd z (by rw [g 55 1 rfl, k2]; exact nI_nge hk (by omega)), fun _ => ⟨vin (by omega) (by omega), ?_⟩⟩
      rw [nI_c (by omega), g 56 _ rfl, g 57 _ rfl]
      refine ⟨fun c => hit (Or.inl c), fun c => ⟨fun c2 => ?_, fun c2 => hit (Or.inr c2)⟩⟩
      rw [or_0 (if_neg (fun z => z.elim (fun z => bnf c z) (fun z => bnf c2 z)))] at ihk
      rw [nI_s, Int32.or_zero]
      exact ihk)
    have e0 : v ||| orF (frF X v) 0 = v := Int32.or_zero
    simp only [e0] at key
    exact key
theorem fr_nat (e : Int32) : ∀ (d n : Nat) (v : Int32), d + n = 12 → frV N X e d n v = -1 ∨ ∃ t, t ≤ 11 ∧ frV N X e d n v = nI t
  | 0, _, _, _ => Or.inl rfl
  | d + 1, n, v, h => by
    unfold frV
    split
    · exact Or.inr ⟨n, by omega, rfl⟩
    · exact fr_nat e d (n + 1) _ (by omega)
def frD (N : Nat → Nat) (X : gp_H) (a e : Int32) : Int32 := frV N X e 12 0 ((1 : Int32) <<< (a &&& 31))
theorem s_ne_fewestPipes (h : Inv N S X) (a e : Int32) : Ev E m_ne_fewestPipes 0 [(0, .ref 1), (1, .int a), (2, .int e)] [] X (0, 0) (gp_q (some (.int (frD N X a e))) X) := b_ne_fewestPipes_0 h.lay (far_c h 12 0 _ rfl)
theorem s_mo_far (h : Inv N S X) (hX : Lay S Y) (g : Rf X Y) (a e : Int32) : Ev E m_mo_far 0 [(0, .ref 55), (1, .int a), (2, .int e)] [] Y (0, 0) (gp_q (some (.int (frD N X a e))) Y) := b_mo_far_0 hX (far_r h hX g 12 0 _ rfl)
/-- who comes first -/
def smC (N : Nat → Nat) (X : gp_H) (k m : Int32) (f : Nat) : Int32 := (if m < gI X 92 f then gI X 92 f else m) + 4 * frD N X (gI X 91 f) k
def smR (N : Nat → Nat) (X : gp_H) (k m : Int32) : Nat → Int32 × Int32
  | 0 => (-1, -1)
  | f + 1 => if ¬ frD N X (gI X 91 f) k = -1 ∧ ((smR N X k m f).1 = -1 ∨ smC N X k m f < (smR N X k m f).2) then (nI f, smC N X k m f) else smR N X k m f
theorem sm_nat2 (h : Inv N S X) {k : Int32} {m : Nat} (hm : m ≤ 9999) : ∀ f, f ≤ N 9 → smR N X k (nI m) f = (-1, -1) ∨ ∃ i t, i < f ∧ t ≤ 9999 + 100 * N 10 + 44 ∧ smR N X k (nI m) f = (nI i, nI t)
  | 0, _ => Or.inl rfl
  | f + 1, hf => by
    unfold smR
    by_cases c : ¬ frD N X (gI X 91 f) k = -1 ∧ ((smR N X k (nI m) f).1 = -1 ∨ smC N X k (nI m) f < (smR N X k (nI m) f).2)
    · rw [if_pos c]
      obtain ⟨t, ht, et⟩ := (fr_nat (N := N) (X := X) k 12 0 ((1 : Int32) <<< (gI X 91 f &&& 31)) rfl).resolve_left c.1
      obtain ⟨dd, hd, ed⟩ := h.fit.2.2.2 f
      have et' : frD N X (gI X 91 f) k = nI t := et
      have n30 := h.sml.1.2.2
      refine Or.inr ⟨f, (if m < dd then dd else m) + 4 * t, by omega, by split <;> omega, ?_⟩
      unfold smC
      rw [ed, et', show (4 : Int32) = nI 4 from rfl, pk_mul]
      by_cases z : m < dd
      · rw [if_pos (nI_lt z (by omega)), if_pos z, nI_add]
      · rw [if_neg (fun y => z ((nI_ltI (by omega) (by omega)).mp y)), if_neg z, nI_add]
    · rw [if_neg c]
      rcases sm_nat2 h hm f (by omega) with a | ⟨i, t, a, b⟩
      · exact Or.inl a
      · exact Or.inr ⟨i, t, by omega, b⟩
theorem sm_c (h : Inv N S X) {x2 k m : Int32} {Q : Option Value → gp_H → Prop} (K : Ev E m_du_addSmell 9 [(0, .ref 31), (1, .ref 1), (2, .int x2), (3, .int k), (4, .int m), (5, .int (smR N X k m (N 9)).1), (6, .int (smR N X k m (N 9)).2), (7, .int (nI (N 9)))] [] X (0, 0) Q) : Ev E m_du_addSmell 0 [(0, .ref 31), (1, .ref 1), (2, .int x2), (3, .int k), (4, .int m)] [] X (0, 0) Q := by
  have hX := h.lay
  obtain ⟨⟨k1, k2, k3⟩, q1, -⟩ := h.fit
  refine b_du_addSmell_0 hX ?_
  refine dn (P := fun f => Ev E m_du_addSmell 9 [(0, .ref 31), (1, .ref 1), (2, .int x2), (3, .int k), (4, .int m), (5, .int (smR N X k m f).1), (6, .int (smR N X k m f).2), (7, .int (nI f))] [] X (0, 0) Q) (n := N 9) K (fun f hf ih => ?_)
  refine b_du_addSmell_9 hX ⟨fun z => absurd z (by rw [k1]; exact nI_nge hf (by omega)), fun _ => ⟨vin (by omega) (by omega), ?_⟩⟩
  rw [nI_c (by omega), (q1 f).2.2.1]
  refine wh_i (s_ne_fewestPipes h _ _) hX ?_
  rw [(q1 f).2.2.2, Int32.mul_comm _ 4, nI_s]
  have no : ¬ (¬ frD N X (gI X 91 f) k = -1 ∧ ((smR N X k m f).1 = -1 ∨ smC N X k m f < (smR N X k m f).2)) → Ev E m_du_addSmell 9 [(0, .ref 31), (1, .ref 1), (2, .int x2), (3, .int k), (4, .int m), (5, .int (smR N X k m f).1), (6, .int (smR N X k m f).2), (7, .int (nI (f + 1)))] [] X (0, 0) Q := fun c => by
    have : smR N X k m (f + 1) = smR N X k m f := if_neg c
    rw [this] at ih; exact ih
  have yes : (¬ frD N X (gI X 91 f) k = -1 ∧ ((smR N X k m f).1 = -1 ∨ smC N X k m f < (smR N X k m f).2)) → ∀ x8 : Int32, Ev E m_du_addSmell 73 [(0, .ref 31), (1, .ref 1), (2, .int x2), (3, .int k), (4, .int m), (5, .int (smR N X k m f).1), (6, .int (smR N X k m f).2), (7, .int (nI f)), (8, .int x8), (9, .int (smC N X k m f))] [] X (0, 0) Q := fun c x8 => by
    have : smR N X k m (f + 1) = (nI f, smC N X k m f) := if_pos c
    rw [this] at ih
    refine b_du_addSmell_73 hX ?_
    rw [nI_s]; exact ih
  exact ⟨fun c => ⟨fun c2 => yes ⟨c, Or.inl c2⟩ _, fun c2 => ⟨fun c3 => no (fun z => z.2.elim c2 (fun y => Int32.lt_irrefl (Int32.lt_of_lt_of_le y c3))), fun c3 => yes ⟨c, Or.inr (Int32.not_le.mp c3)⟩ _⟩⟩, fun c => no (fun z => z.1 c)⟩
theorem sm_r (h : Inv N S X) (hX : Lay S Y) (g : Rf X Y) {j : Nat} (hj : j < S.1) {m : Int32} {Q : Option Value → gp_H → Prop} (K : Ev E m_mo_smell 65 [(0, .ref 55), (1, .int (nI j)), (2, .int m), (3, .int (smR N X (gI X 70 j) m (N 9)).1), (4, .int (smR N X (gI X 70 j) m (N 9)).2), (5, .int (nI (N 9)))] [] Y (0, 0) Q) : Ev E m_mo_smell 65 [(0, .ref 55), (1, .int (nI j)), (2, .int m), (3, .int (-1)), (4, .int (-1)), (5, .int 0)] [] Y (0, 0) Q := by
  obtain ⟨⟨k1, k2, k3⟩, q1, -⟩ := h.fit
  have l := l40 hX
  refine dn (P := fun f => Ev E m_mo_smell 65 [(0, .ref 55), (1, .int (nI j)), (2, .int m), (3, .int (smR N X (gI X 70 j) m f).1), (4, .int (smR N X (gI X 70 j) m f).2), (5, .int (nI f))] [] Y (0, 0) Q) (n := N 9) K (fun f hf ih => ?_)
  refine b_mo_smell_65 hX ⟨fun z => absurd z (by rw [g 55 45 rfl, k2]; exact nI_nge hf (by omega)), fun _ => ⟨vin (by omega) (by omega), vin (by omega) (by omega), ?_⟩⟩
  rw [nI_c (k := f) (by omega), nI_c (k := j) (by omega), g 91 _ rfl, g 70 _ rfl]
  refine wh_i (s_mo_far h hX g _ _) hX ?_
  rw [g 92 _ rfl]
  have no : ¬ (¬ frD N X (gI X 91 f) (gI X 70 j) = -1 ∧ ((smR N X (gI X 70 j) m f).1 = -1 ∨ smC N X (gI X 70 j) m f < (smR N X (gI X 70 j) m f).2)) → Ev E m_mo_smell 65 [(0, .ref 55), (1, .int (nI j)), (2, .int m), (3, .int (smR N X (gI X 70 j) m f).1), (4, .int (smR N X (gI X 70 j) m f).2), (5, .int (nI f + 1))] [] Y (0, 0) Q := fun c => by
    have : smR N X (gI X 70 j) m (f + 1) = smR N X (gI X 70 j) m f := if_neg c
    rw [this] at ih; rw [nI_s]; exact ih
  have e115 : ∀ t0 : Int32, t0 + 4 * frD N X (gI X 91 f) (gI X 70 j) = smC N X (gI X 70 j) m f → Ev E m_mo_smell 115 [(0, .ref 55), (1, .int (nI j)), (2, .int m), (3, .int (smR N X (gI X 70 j) m f).1), (4, .int (smR N X (gI X 70 j) m f).2), (5, .int (nI f)), (6, .int (frD N X (gI X 91 f) (gI X 70 j)))] [.int t0] Y (0, 0) Q := fun t0 et => by
    refine b_mo_smell_115 hX ?_
    rw [et]
    have yes : (¬ frD N X (gI X 91 f) (gI X 70 j) = -1 ∧ ((smR N X (gI X 70 j) m f).1 = -1 ∨ smC N X (gI X 70 j) m f < (smR N X (gI X 70 j) m f).2)) → Ev E m_mo_smell 140 [(0, .ref 55), (1, .int (nI j)), (2, .int m), (3, .int (smR N X (gI X 70 j) m f).1), (4, .int (smR N X (gI X 70 j) m f).2), (5, .int (nI f)), (6, .int (frD N X (gI X 91 f) (gI X 70 j))), (7, .int (smC N X (gI X 70 j) m f))] [] Y (0, 0) Q := fun c => by
      have : smR N X (gI X 70 j) m (f + 1) = (nI f, smC N X (gI X 70 j) m f) := if_pos c
      rw [this] at ih
      refine b_mo_smell_140 hX ?_
      rw [nI_s]; exact ih
    exact ⟨fun c => no (fun z => z.1 c), fun c => ⟨fun c2 => yes ⟨c, Or.inl c2⟩, fun c2 => ⟨fun c3 => no (fun z => z.2.elim c2 (fun y => Int32.lt_irrefl (Int32.lt_of_lt_of_le y c3))), fun c3 => yes ⟨c, Or.inr (Int32.not_le.mp c3)⟩⟩⟩⟩
  refine ⟨fun c => e115 _ ?_, fun c => e115 _ ?_⟩
  · unfold smC; rw [if_neg (Int32.not_lt.mpr c)]
  · unfold smC; rw [if_pos (Int32.not_le.mp c)]
theorem I_sml_add {N' : Nat → Nat} {X' : gp_H} {x1 x3 x4 : Int32} {m : Nat} (h : I_sml N X) (h10 : N' 10 = N 10 + 1) (hl : N 10 < 30) (hm : m ≤ 9999) (s1 : gI X' 31 5 = nI (N 10 + 1)) (s2 : gI X' 55 50 = nI (N 10 + 1)) (r36 : ∀ i, gI X' 36 i = if i = N 10 then x1 else gI X 36 i) (r37 : ∀ i, gI X' 37 i = if i = N 10 then nI m else gI X 37 i) (r38 : ∀ i, gI X' 38 i = if i = N 10 then x3 else gI X 38 i) (r39 : ∀ i, gI X' 39 i = if i = N 10 then x4 else gI X 39 i) (r93 : ∀ i, gI X' 93 i = if i = N 10 then x1 else gI X 93 i) (r94 : ∀ i, gI X' 94 i = if i = N 10 then nI m else gI X 94 i) (r95 : ∀ i, gI X' 95 i = if i = N 10 then x3 else gI X 95 i) (r96 : ∀ i, gI X' 96 i = if i = N 10 then x4 else gI X 96 i) : I_sml N' X' := by
  obtain ⟨-, q1, q2⟩ := h
  unfold I_sml
  rw [h10]
  refine ⟨⟨s1, s2, hl⟩, fun i => ⟨two_rows (fun i => (q1 i).1) r36 r93 i, two_rows (fun i => (q1 i).2.1) r37 r94 i, two_rows (fun i => (q1 i).2.2.1) r38 r95 i, two_rows (fun i => (q1 i).2.2.2) r39 r96 i⟩, fun i hi => ?_⟩
  by_cases z : i = N 10
  · subst z; exact ⟨m, hm, row_at r94⟩
  · rw [row_ne r94 z]; exact q2 i (by omega)
theorem I_fit_sm {N' : Nat → Nat} {X' : gp_H} (h : I_fit N X) (h0 : N' 0 = N 0) (h9 : N' 9 = N 9) (h10 : N' 10 = N 10 + 1) (s1 : gI X' 31 0 = gI X 31 0) (s2 : gI X' 55 45 = gI X 55 45) (r : ∀ a, a = 32 ∨ a = 33 ∨ a = 89 ∨ a = 90 → ∀ i, gI X' a i = gI X a i) (e34 : ∀ i, gI X' 34 i = gI X' 91 i) (e35 : ∀ i, gI X' 35 i = gI X' 92 i) (v91 : ∀ i, i < N 9 → ∃ c, c < N 0 ∧ gI X' 91 i = nI c) (v92 : ∀ i, ∃ d, d ≤ 9999 + 100 * (N 10 + 1) ∧ gI X' 92 i = nI d) : I_fit N' X' := by
  obtain ⟨w, q1, q2, q3⟩ := h
  unfold I_fit
  rw [h0, h9, h10, s1, s2]
  refine ⟨w, fun i => ⟨by rw [r 32 (by omega), r 89 (by omega)]; exact (q1 i).1, by rw [r 33 (by omega), r 90 (by omega)]; exact (q1 i).2.1, e34 i, e35 i⟩, fun i hi => ?_, v92⟩
  obtain ⟨a, b, c, d, p1, p2, p3, p4, p5, p6, p7, p8, p9⟩ := q2 i hi
  obtain ⟨c', hc, ec⟩ := v91 i hi
  obtain ⟨d', hd, ed⟩ := v92 i
  exact ⟨a, b, c', d', p1, by rw [r 89 (by omega)]; exact p2, p3, p4, by rw [r 90 (by omega)]; exact p5, hc, ec, hd, ed⟩
end FAR
theorem p_smell {E : gp_E} {N : Nat → Nat} {S : gp_S} {X : gp_H} (h : Inv N S X) (x1 x2 : Int32) : Ev E m_ga_smell 0 [(0, .ref 0), (1, .int x1), (2, .int x2)] [] X (0, 0) (gp_two E m_mo_smell [(0, .ref 55), (1, .int x1), (2, .int x2)]) := by
  have hL := h.lay
  have l := l40 hL
  have hn := h.net.1
  obtain ⟨⟨k1, k2, k3⟩, q1, q2⟩ := h.sml
  obtain ⟨⟨f1, f2, f3⟩, -⟩ := h.fit
  refine b_ga_smell_0 hL (wh_home h (fun j hj e => ?_) (fun c1 => ⟨_, S, rfl, hL, b_mo_smell_0 hL (by rw [h.hom.1.2]; exact ⟨fun z => bnf c1 z, fun _ => ⟨rfl, N, h⟩⟩)⟩))
  subst e
  have c1 := iw_of hj (show S.1 ≤ 100000 by omega)
  have aH := (hm_at hL hj).2
  obtain ⟨⟨a0, -⟩, ⟨kk, bb, cc, hkk, ekk, -⟩, -⟩ := h.hom.2 j hj
  -- the latest minute
  have lat : ∃ w : Int32, Ev E m_du_latestMinute 0 [(0, .ref 31)] [] X (0, 0) (gp_q (some (.int w)) X) ∧ (∃ t, t ≤ 9999 ∧ w = nI t) ∧ ∀ {Y : gp_H} {Q : Option Value → gp_H → Prop} (lY : Lay S Y) (gY : Rf X Y), Ev E m_mo_smell 33 [(0, .ref 55), (1, .int (nI j)), (2, .int x2)] [.int w, .int x2] Y (0, 0) Q → Ev E m_mo_smell 0 [(0, .ref 55), (1, .int (nI j)), (2, .int x2)] [] Y (0, 0) Q := by
    by_cases z : N 10 = 0
    · refine ⟨0, b_du_latestMinute_0 hL ⟨fun _ => ⟨rfl, rfl⟩, fun y => absurd (by rw [k1, z]; decide) y⟩, ⟨0, by omega, rfl⟩, fun lY gY K => b_mo_smell_0 lY ?_⟩
      rw [gY 55 19 rfl, h.hom.1.2, gY 55 50 rfl, k2, z]
      exact ⟨fun _ => ⟨fun y => absurd rfl y, fun _ => K⟩, fun y => bne c1 y⟩
    · obtain ⟨n, en⟩ : ∃ n, N 10 = n + 1 := ⟨N 10 - 1, by omega⟩
      have ne : ¬ nI (N 10) ≤ 0 := nI_nle (by omega) (by omega)
      have n0 : ¬ nI (N 10) = 0 := nI_ne0 (by omega) (by omega)
      obtain ⟨t, ht, et⟩ := q2 n (by omega)
      refine ⟨gI X 94 n, b_du_latestMinute_0 hL ?_, ⟨t, ht, et⟩, fun lY gY K => b_mo_smell_0 lY ?_⟩
      · rw [k1, en, nI_pred, nI_c (by omega), (q1 n).2.1]
        rw [en] at ne
        exact ⟨fun y => absurd y ne, fun _ => ⟨vin (by omega) (by omega), rfl, rfl⟩⟩
      · rw [gY 55 19 rfl, h.hom.1.2, gY 55 50 rfl, k2, en, nI_pred, nI_c (by omega), gY 94 _ rfl]
        rw [en] at n0
        exact ⟨fun _ => ⟨fun _ => ⟨vin (by omega) (by omega), K⟩, fun y => absurd y n0⟩, fun y => bne c1 y⟩
  obtain ⟨w, hw, ⟨tw, htw, etw⟩, top⟩ := lat
  refine wh_i hw hL ⟨aH, fun c2 => ?_, fun c2 => ⟨_, S, rfl, hL, top hL (rf_0 X) (b_mo_smell_33 hL ⟨fun z => bnf c2 z, fun _ => ⟨rfl, N, h⟩⟩)⟩⟩
  obtain ⟨b1, b2⟩ := iw_ab c2
  obtain ⟨m, hm, rfl⟩ := nI_of2 (M := 9999) (n := 9999) (by decide) (fun z => Int32.lt_irrefl (Int32.lt_of_lt_of_le z (Int32.le_trans (show 0 ≤ w by rw [etw]; exact nI_pos' (by omega)) b1))) b2
  rw [k1, a0]
  refine ⟨fun c3 => ?_, fun c3 => ⟨_, S, rfl, hL, top hL (rf_0 X) (b_mo_smell_33 hL (by rw [k2]; exact ⟨fun _ => ⟨fun z => absurd ((nI_eq_lit (n := N 10) (k := 30) rfl (by omega) (by omega)).mpr (by have hn30 : ¬ N 10 < 30 := fun y => c3 ((nI_lt_lit (n := N 10) (k := 30) rfl (by omega) (by omega)).mpr y); omega)) z, fun _ => ⟨rfl, N, h⟩⟩, fun z => bne c2 z⟩))⟩⟩
  have hl : N 10 < 30 := (nI_lt_lit (k := 30) rfl (by omega) (by omega)).mp c3
  have cn : Int32.toNatClampNeg (nI (N 10)) = N 10 := nI_c (by omega)
  have down : ∀ {Y : gp_H} {Q : Option Value → gp_H → Prop} (lY : Lay S Y) (gY : Rf X Y), Ev E m_mo_smell 65 [(0, .ref 55), (1, .int (nI j)), (2, .int (nI m)), (3, .int (smR N X (gI X 70 j) (nI m) (N 9)).1), (4, .int (smR N X (gI X 70 j) (nI m) (N 9)).2), (5, .int (nI (N 9)))] [] Y (0, 0) Q → Ev E m_mo_smell 0 [(0, .ref 55), (1, .int (nI j)), (2, .int (nI m))] [] Y (0, 0) Q := fun lY gY K => top lY gY (b_mo_smell_33 lY (by rw [gY 55 50 rfl, k2]; exact ⟨fun _ => ⟨fun _ => sm_r h lY gY hj K, fun z => absurd ((nI_eq_lit (k := 30) rfl (by omega) (by omega)).mp z) (by omega)⟩, fun z => bne c2 z⟩))
  rcases sm_nat2 h (k := gI X 70 j) hm (N 9) (Nat.le_refl _) with er | ⟨i, t, hi, ht, er⟩
  · rw [er] at down
    have cl : Ev E m_du_addSmell 0 [(0, .ref 31), (1, .ref 1), (2, .int (nI j)), (3, .int (gI X 70 j)), (4, .int (nI m))] [] X (0, 0) (gp_q (some (.int (nI (N 10)))) (gp_sI (gp_sI (gp_sI (gp_sI (gp_sI X 36 (N 10) (nI j)) 37 (N 10) (nI m)) 38 (N 10) (-1)) 39 (N 10) (-1)) 31 5 (nI (N 10) + 1))) := by
      refine sm_c h ?_
      rw [er]
      refine b_du_addSmell_9 hL ⟨fun _ => ?_, fun z => absurd (by rw [f1]; exact Int32.le_refl _) z⟩
      rw [k1, cn]
      refine ⟨vin hl (by omega), fun _ => b_du_addSmell_156 (ly_sI (ly_sI (ly_sI (ly_sI hL)))) ⟨?_, ?_⟩, fun z => absurd rfl z⟩
      · exact congrArg (fun z => some (Value.int z)) k1.symm
      · exact congrArg (fun z => gp_sI (gp_sI (gp_sI (gp_sI (gp_sI X 36 (N 10) (nI j)) 37 (N 10) (nI m)) 38 (N 10) (-1)) 39 (N 10) (-1)) 31 5 (z + 1)) k1.symm
    have gY : Rf X (gp_sI (gp_sI (gp_sI (gp_sI (gp_sI X 36 (N 10) (nI j)) 37 (N 10) (nI m)) 38 (N 10) (-1)) 39 (N 10) (-1)) 31 5 (nI (N 10) + 1)) := rg_sI (rg_sI (rg_sI (rg_sI (rg_sI (rf_0 X)))))
    refine wh_i cl (ly_sI (ly_sI (ly_sI (ly_sI (ly_sI hL))))) ⟨aH, _, S, rfl, (ly_sI (ly_sI (ly_sI (ly_sI (ly_sI hL))))), down (ly_sI (ly_sI (ly_sI (ly_sI (ly_sI hL))))) gY (b_mo_smell_65 (ly_sI (ly_sI (ly_sI (ly_sI (ly_sI hL))))) ⟨fun _ => ?_, fun z => absurd (by rw [gY 55 45 rfl, f2]; exact Int32.le_refl _) z⟩)⟩
    rw [gY 55 50 rfl, k2, cn]
    refine ⟨vin hl (by omega), fun _ => b_mo_smell_222 (ly_sI (ly_sI (ly_sI (ly_sI (ly_sI (ly_sI (ly_sI (ly_sI (ly_sI hL))))))))) ⟨?_, ?_⟩, fun z => absurd rfl z⟩
    · rw [nI_add_sub]
      exact congrArg (fun z => some (Value.int z)) ((gY 55 50 rfl).trans k2)
    have e50 : gI (gp_sI (gp_sI (gp_sI (gp_sI (gp_sI (gp_sI (gp_sI (gp_sI (gp_sI X 36 (N 10) (nI j)) 37 (N 10) (nI m)) 38 (N 10) (-1)) 39 (N 10) (-1)) 31 5 (nI (N 10) + 1)) 93 (N 10) (nI j)) 94 (N 10) (nI m)) 95 (N 10) (-1)) 96 (N 10) (-1)) 55 50 = nI (N 10) := (gY 55 50 rfl).trans k2
    rw [e50]
    refine iv_y [(31, 5), (34, 0), (35, 0), (36, 0), (37, 0), (38, 0), (39, 0), (91, 0), (92, 0), (93, 0), (94, 0), (95, 0), (96, 0), (55, 50)] false (fun i => if i = 10 then N 10 + 1 else N i) h (ly_sI (ly_sI (ly_sI (ly_sI (ly_sI (ly_sI (ly_sI (ly_sI (ly_sI (ly_sI hL)))))))))) (fun a k ho _ => ?_) (fun hx => ⟨hx.1, (hx.2.1 rfl), (hx.2.2.1 rfl), (hx.2.2.2.1 rfl), (hx.2.2.2.2.1 rfl), (hx.2.2.2.2.2.1 rfl), (hx.2.2.2.2.2.2.1 rfl), (hx.2.2.2.2.2.2.2.1 rfl), (hx.2.2.2.2.2.2.2.2.1 rfl), (hx.2.2.2.2.2.2.2.2.2.1 rfl), (hx.2.2.2.2.2.2.2.2.2.2.1 rfl), (hx.2.2.2.2.2.2.2.2.2.2.2.1 rfl), (hx.2.2.2.2.2.2.2.2.2.2.2.2.1 rfl), (hx.2.2.2.2.2.2.2.2.2.2.2.2.2.1 rfl), ?_, ?_, (hx.2.2.2.2.2.2.2.2.2.2.2.2.2.2.2.2.1 rfl), (hx.2.2.2.2.2.2.2.2.2.2.2.2.2.2.2.2.2.1 rfl), (hx.2.2.2.2.2.2.2.2.2.2.2.2.2.2.2.2.2.2.1 rfl), (hx.2.2.2.2.2.2.2.2.2.2.2.2.2.2.2.2.2.2.2.1 rfl), (hx.2.2.2.2.2.2.2.2.2.2.2.2.2.2.2.2.2.2.2.2.1 rfl), (hx.2.2.2.2.2.2.2.2.2.2.2.2.2.2.2.2.2.2.2.2.2 rfl)⟩)
    · have d34 : a ≠ 34 := off_ne ho (34, 0)
      have d35 : a ≠ 35 := off_ne ho (35, 0)
      have d36 : a ≠ 36 := off_ne ho (36, 0)
      have d37 : a ≠ 37 := off_ne ho (37, 0)
      have d38 : a ≠ 38 := off_ne ho (38, 0)
      have d39 : a ≠ 39 := off_ne ho (39, 0)
      have d91 : a ≠ 91 := off_ne ho (91, 0)
      have d92 : a ≠ 92 := off_ne ho (92, 0)
      have d93 : a ≠ 93 := off_ne ho (93, 0)
      have d94 : a ≠ 94 := off_ne ho (94, 0)
      have d95 : a ≠ 95 := off_ne ho (95, 0)
      have d96 : a ≠ 96 := off_ne ho (96, 0)
      have e1 := off_sl ho (31, 5)
      have e2 := off_sl ho (55, 50)
      simp only [gI_sI]
      rw [if_neg e2, if_neg (fun z => d96 z.1), if_neg (fun z => d95 z.1), if_neg (fun z => d94 z.1), if_neg (fun z => d93 z.1), if_neg e1, if_neg (fun z => d39 z.1), if_neg (fun z => d38 z.1), if_neg (fun z => d37 z.1), if_neg (fun z => d36 z.1)]
    · exact I_fit_sm h.fit rfl rfl rfl rfl rfl (fun a ha z => by rcases ha with e | e | e | e <;> subst e <;> rfl) (fun z => (h.fit.2.1 z).2.2.1) (fun z => (h.fit.2.1 z).2.2.2) (fun z hz => by
        obtain ⟨a, b, c, d, p1, p2, p3, p4, p5, p6, p7, -⟩ := h.fit.2.2.1 z hz
        exact ⟨c, p6, p7⟩) (fun z => by
        obtain ⟨d, p1, p2⟩ := h.fit.2.2.2 z
        exact ⟨d, by omega, p2⟩)
    · exact I_sml_add (m := m) (x1 := nI j) (x3 := (-1)) (x4 := (-1)) h.sml rfl hl hm (by simp only [gI_sI, Nat.reduceEqDiff, false_and, true_and, and_false, and_true, ite_false, ite_true, ↓reduceIte, reduceCtorEq, nI_s]) (by simp only [gI_sI, Nat.reduceEqDiff, false_and, true_and, and_false, and_true, ite_false, ite_true, ↓reduceIte, reduceCtorEq, nI_s]) (fun i => by simp only [gI_sI, Nat.reduceEqDiff, false_and, true_and, and_false, and_true, ite_false, ite_true, ↓reduceIte, reduceCtorEq]) (fun i => by simp only [gI_sI, Nat.reduceEqDiff, false_and, true_and, and_false, and_true, ite_false, ite_true, ↓reduceIte, reduceCtorEq]) (fun i => by simp only [gI_sI, Nat.reduceEqDiff, false_and, true_and, and_false, and_true, ite_false, ite_true, ↓reduceIte, reduceCtorEq]) (fun i => by simp only [gI_sI, Nat.reduceEqDiff, false_and, true_and, and_false, and_true, ite_false, ite_true, ↓reduceIte, reduceCtorEq]) (fun i => by simp only [gI_sI, Nat.reduceEqDiff, false_and, true_and, and_false, and_true, ite_false, ite_true, ↓reduceIte, reduceCtorEq]) (fun i => by simp only [gI_sI, Nat.reduceEqDiff, false_and, true_and, and_false, and_true, ite_false, ite_true, ↓reduceIte, reduceCtorEq]) (fun i => by simp only [gI_sI, Nat.reduceEqDiff, false_and, true_and, and_false, and_true, ite_false, ite_true, ↓reduceIte, reduceCtorEq]) (fun i => by simp only [gI_sI, Nat.reduceEqDiff, false_and, true_and, and_false, and_true, ite_false, ite_true, ↓reduceIte, reduceCtorEq])
  · rw [er] at down
    have ni : ¬ nI i = -1 := fun y => by
      have := congrArg Int32.toInt y
      rw [nI_toInt (by omega)] at this
      exact absurd this (by rw [show (-1 : Int32).toInt = -1 from by decide]; omega)
    have ci : Int32.toNatClampNeg (nI i) = i := nI_c (by omega)
    have cl : Ev E m_du_addSmell 0 [(0, .ref 31), (1, .ref 1), (2, .int (nI j)), (3, .int (gI X 70 j)), (4, .int (nI m))] [] X (0, 0) (gp_q (some (.int (nI (N 10)))) (gp_sI (gp_sI (gp_sI (gp_sI (gp_sI (gp_sI (gp_sI X 36 (N 10) (nI j)) 37 (N 10) (nI m)) 38 (N 10) (nI i)) 39 (N 10) (nI t)) 35 i ((nI t) + 15)) 34 i (gI X 70 j)) 31 5 (nI (N 10) + 1))) := by
      refine sm_c h ?_
      rw [er]
      refine b_du_addSmell_9 hL ⟨fun _ => ?_, fun z => absurd (by rw [f1]; exact Int32.le_refl _) z⟩
      rw [k1, cn, ci]
      refine ⟨vin hl (by omega), fun z => absurd z ni, fun _ => ⟨vin (by omega) (by omega), b_du_addSmell_156 (ly_sI (ly_sI (ly_sI (ly_sI (ly_sI (ly_sI hL)))))) ⟨?_, ?_⟩⟩⟩
      · exact congrArg (fun z => some (Value.int z)) k1.symm
      · exact congrArg (fun z => gp_sI (gp_sI (gp_sI (gp_sI (gp_sI (gp_sI (gp_sI X 36 (N 10) (nI j)) 37 (N 10) (nI m)) 38 (N 10) (nI i)) 39 (N 10) (nI t)) 35 i (nI t + 15)) 34 i (gI X 70 j)) 31 5 (z + 1)) k1.symm
    have gY : Rf X (gp_sI (gp_sI (gp_sI (gp_sI (gp_sI (gp_sI (gp_sI X 36 (N 10) (nI j)) 37 (N 10) (nI m)) 38 (N 10) (nI i)) 39 (N 10) (nI t)) 35 i ((nI t) + 15)) 34 i (gI X 70 j)) 31 5 (nI (N 10) + 1)) := rg_sI (rg_sI (rg_sI (rg_sI (rg_sI (rg_sI (rg_sI (rf_0 X)))))))
    refine wh_i cl (ly_sI (ly_sI (ly_sI (ly_sI (ly_sI (ly_sI (ly_sI hL))))))) ⟨aH, _, S, rfl, (ly_sI (ly_sI (ly_sI (ly_sI (ly_sI (ly_sI (ly_sI hL))))))), down (ly_sI (ly_sI (ly_sI (ly_sI (ly_sI (ly_sI (ly_sI hL))))))) gY (b_mo_smell_65 (ly_sI (ly_sI (ly_sI (ly_sI (ly_sI (ly_sI (ly_sI hL))))))) ⟨fun _ => ?_, fun z => absurd (by rw [gY 55 45 rfl, f2]; exact Int32.le_refl _) z⟩)⟩
    rw [gY 55 50 rfl, k2, cn, ci, nI_c (k := j) (by omega), gY 70 _ rfl]
    refine ⟨vin hl (by omega), fun z => absurd z ni, fun _ => ⟨vin (by omega) (by omega), vin (by omega) (by omega), b_mo_smell_222 (ly_sI (ly_sI (ly_sI (ly_sI (ly_sI (ly_sI (ly_sI (ly_sI (ly_sI (ly_sI (ly_sI (ly_sI (ly_sI hL))))))))))))) ⟨?_, ?_⟩⟩⟩
    · rw [nI_add_sub]
      exact congrArg (fun z => some (Value.int z)) ((gY 55 50 rfl).trans k2)
    have e50 : gI (gp_sI (gp_sI (gp_sI (gp_sI (gp_sI (gp_sI (gp_sI (gp_sI (gp_sI (gp_sI (gp_sI (gp_sI (gp_sI X 36 (N 10) (nI j)) 37 (N 10) (nI m)) 38 (N 10) (nI i)) 39 (N 10) (nI t)) 35 i ((nI t) + 15)) 34 i (gI X 70 j)) 31 5 (nI (N 10) + 1)) 93 (N 10) (nI j)) 94 (N 10) (nI m)) 95 (N 10) (nI i)) 96 (N 10) (nI t)) 92 i (nI t + 15)) 91 i (gI X 70 j)) 55 50 = nI (N 10) := (gY 55 50 rfl).trans k2
    rw [e50]
    refine iv_y [(31, 5), (34, 0), (35, 0), (36, 0), (37, 0), (38, 0), (39, 0), (91, 0), (92, 0), (93, 0), (94, 0), (95, 0), (96, 0), (55, 50)] false (fun i => if i = 10 then N 10 + 1 else N i) h (ly_sI (ly_sI (ly_sI (ly_sI (ly_sI (ly_sI (ly_sI (ly_sI (ly_sI (ly_sI (ly_sI (ly_sI (ly_sI (ly_sI hL)))))))))))))) (fun a k ho _ => ?_) (fun hx => ⟨hx.1, (hx.2.1 rfl), (hx.2.2.1 rfl), (hx.2.2.2.1 rfl), (hx.2.2.2.2.1 rfl), (hx.2.2.2.2.2.1 rfl), (hx.2.2.2.2.2.2.1 rfl), (hx.2.2.2.2.2.2.2.1 rfl), (hx.2.2.2.2.2.2.2.2.1 rfl), (hx.2.2.2.2.2.2.2.2.2.1 rfl), (hx.2.2.2.2.2.2.2.2.2.2.1 rfl), (hx.2.2.2.2.2.2.2.2.2.2.2.1 rfl), (hx.2.2.2.2.2.2.2.2.2.2.2.2.1 rfl), (hx.2.2.2.2.2.2.2.2.2.2.2.2.2.1 rfl), ?_, ?_, (hx.2.2.2.2.2.2.2.2.2.2.2.2.2.2.2.2.1 rfl), (hx.2.2.2.2.2.2.2.2.2.2.2.2.2.2.2.2.2.1 rfl), (hx.2.2.2.2.2.2.2.2.2.2.2.2.2.2.2.2.2.2.1 rfl), (hx.2.2.2.2.2.2.2.2.2.2.2.2.2.2.2.2.2.2.2.1 rfl), (hx.2.2.2.2.2.2.2.2.2.2.2.2.2.2.2.2.2.2.2.2.1 rfl), (hx.2.2.2.2.2.2.2.2.2.2.2.2.2.2.2.2.2.2.2.2.2 rfl)⟩)
    · have d34 : a ≠ 34 := off_ne ho (34, 0)
      have d35 : a ≠ 35 := off_ne ho (35, 0)
      have d36 : a ≠ 36 := off_ne ho (36, 0)
      have d37 : a ≠ 37 := off_ne ho (37, 0)
      have d38 : a ≠ 38 := off_ne ho (38, 0)
      have d39 : a ≠ 39 := off_ne ho (39, 0)
      have d91 : a ≠ 91 := off_ne ho (91, 0)
      have d92 : a ≠ 92 := off_ne ho (92, 0)
      have d93 : a ≠ 93 := off_ne ho (93, 0)
      have d94 : a ≠ 94 := off_ne ho (94, 0)
      have d95 : a ≠ 95 := off_ne ho (95, 0)
      have d96 : a ≠ 96 := off_ne ho (96, 0)
      have e1 := off_sl ho (31, 5)
      have e2 := off_sl ho (55, 50)
      simp only [gI_sI]
      rw [if_neg e2, if_neg (fun z => d91 z.1), if_neg (fun z => d92 z.1), if_neg (fun z => d96 z.1), if_neg (fun z => d95 z.1), if_neg (fun z => d94 z.1), if_neg (fun z => d93 z.1), if_neg e1, if_neg (fun z => d34 z.1), if_neg (fun z => d35 z.1), if_neg (fun z => d39 z.1), if_neg (fun z => d38 z.1), if_neg (fun z => d37 z.1), if_neg (fun z => d36 z.1)]
    · have r91 : ∀ z, gI (gp_sI (gp_sI (gp_sI (gp_sI (gp_sI (gp_sI (gp_sI (gp_sI (gp_sI (gp_sI (gp_sI (gp_sI (gp_sI (gp_sI X 36 (N 10) (nI j)) 37 (N 10) (nI m)) 38 (N 10) (nI i)) 39 (N 10) (nI t)) 35 i ((nI t) + 15)) 34 i (gI X 70 j)) 31 5 (nI (N 10) + 1)) 93 (N 10) (nI j)) 94 (N 10) (nI m)) 95 (N 10) (nI i)) 96 (N 10) (nI t)) 92 i ((nI t) + 15)) 91 i (gI X 70 j)) 55 50 (nI (N 10) + 1)) 91 z = if z = i then gI X 70 j else gI X 91 z := fun z => by simp only [gI_sI, Nat.reduceEqDiff, false_and, true_and, and_false, and_true, ite_false, ite_true, ↓reduceIte, reduceCtorEq]
      have r92 : ∀ z, gI (gp_sI (gp_sI (gp_sI (gp_sI (gp_sI (gp_sI (gp_sI (gp_sI (gp_sI (gp_sI (gp_sI (gp_sI (gp_sI (gp_sI X 36 (N 10) (nI j)) 37 (N 10) (nI m)) 38 (N 10) (nI i)) 39 (N 10) (nI t)) 35 i ((nI t) + 15)) 34 i (gI X 70 j)) 31 5 (nI (N 10) + 1)) 93 (N 10) (nI j)) 94 (N 10) (nI m)) 95 (N 10) (nI i)) 96 (N 10) (nI t)) 92 i ((nI t) + 15)) 91 i (gI X 70 j)) 55 50 (nI (N 10) + 1)) 92 z = if z = i then nI t + 15 else gI X 92 z := fun z => by simp only [gI_sI, Nat.reduceEqDiff, false_and, true_and, and_false, and_true, ite_false, ite_true, ↓reduceIte, reduceCtorEq]
      have r34 : ∀ z, gI (gp_sI (gp_sI (gp_sI (gp_sI (gp_sI (gp_sI (gp_sI (gp_sI (gp_sI (gp_sI (gp_sI (gp_sI (gp_sI (gp_sI X 36 (N 10) (nI j)) 37 (N 10) (nI m)) 38 (N 10) (nI i)) 39 (N 10) (nI t)) 35 i ((nI t) + 15)) 34 i (gI X 70 j)) 31 5 (nI (N 10) + 1)) 93 (N 10) (nI j)) 94 (N 10) (nI m)) 95 (N 10) (nI i)) 96 (N 10) (nI t)) 92 i ((nI t) + 15)) 91 i (gI X 70 j)) 55 50 (nI (N 10) + 1)) 34 z = if z = i then gI X 70 j else gI X 34 z := fun z => by simp only [gI_sI, Nat.reduceEqDiff, false_and, true_and, and_false, and_true, ite_false, ite_true, ↓reduceIte, reduceCtorEq]
      have r35 : ∀ z, gI (gp_sI (gp_sI (gp_sI (gp_sI (gp_sI (gp_sI (gp_sI (gp_sI (gp_sI (gp_sI (gp_sI (gp_sI (gp_sI (gp_sI X 36 (N 10) (nI j)) 37 (N 10) (nI m)) 38 (N 10) (nI i)) 39 (N 10) (nI t)) 35 i ((nI t) + 15)) 34 i (gI X 70 j)) 31 5 (nI (N 10) + 1)) 93 (N 10) (nI j)) 94 (N 10) (nI m)) 95 (N 10) (nI i)) 96 (N 10) (nI t)) 92 i ((nI t) + 15)) 91 i (gI X 70 j)) 55 50 (nI (N 10) + 1)) 35 z = if z = i then nI t + 15 else gI X 35 z := fun z => by simp only [gI_sI, Nat.reduceEqDiff, false_and, true_and, and_false, and_true, ite_false, ite_true, ↓reduceIte, reduceCtorEq]
      refine I_fit_sm h.fit rfl rfl rfl rfl rfl (fun a ha z => by rcases ha with e | e | e | e <;> subst e <;> rfl) (two_rows (fun z => (h.fit.2.1 z).2.2.1) r34 r91) (two_rows (fun z => (h.fit.2.1 z).2.2.2) r35 r92) (fun z hz => ?_) (fun z => ?_)
      · by_cases y : z = i
        · subst y; rw [row_at r91]; exact ⟨kk, hkk, ekk⟩
        · rw [row_ne r91 y]
          obtain ⟨a, b, c, d, p1, p2, p3, p4, p5, p6, p7, -⟩ := h.fit.2.2.1 z hz
          exact ⟨c, p6, p7⟩
      · by_cases y : z = i
        · subst y; rw [row_at r92]; exact ⟨t + 15, by omega, by rw [show (15 : Int32) = nI 15 from rfl, nI_add]⟩
        · rw [row_ne r92 y]
          obtain ⟨d, p1, p2⟩ := h.fit.2.2.2 z
          exact ⟨d, by omega, p2⟩
    · exact I_sml_add (m := m) (x1 := nI j) (x3 := (nI i)) (x4 := (nI t)) h.sml rfl hl hm (by simp only [gI_sI, Nat.reduceEqDiff, false_and, true_and, and_false, and_true, ite_false, ite_true, ↓reduceIte, reduceCtorEq, nI_s]) (by simp only [gI_sI, Nat.reduceEqDiff, false_and, true_and, and_false, and_true, ite_false, ite_true, ↓reduceIte, reduceCtorEq, nI_s]) (fun i => by simp only [gI_sI, Nat.reduceEqDiff, false_and, true_and, and_false, and_true, ite_false, ite_true, ↓reduceIte, reduceCtorEq]) (fun i => by simp only [gI_sI, Nat.reduceEqDiff, false_and, true_and, and_false, and_true, ite_false, ite_true, ↓reduceIte, reduceCtorEq]) (fun i => by simp only [gI_sI, Nat.reduceEqDiff, false_and, true_and, and_false, and_true, ite_false, ite_true, ↓reduceIte, reduceCtorEq]) (fun i => by simp only [gI_sI, Nat.reduceEqDiff, false_and, true_and, and_false, and_true, ite_false, ite_true, ↓reduceIte, reduceCtorEq]) (fun i => by simp only [gI_sI, Nat.reduceEqDiff, false_and, true_and, and_false, and_true, ite_false, ite_true, ↓reduceIte, reduceCtorEq]) (fun i => by simp only [gI_sI, Nat.reduceEqDiff, false_and, true_and, and_false, and_true, ite_false, ite_true, ↓reduceIte, reduceCtorEq]) (fun i => by simp only [gI_sI, Nat.reduceEqDiff, false_and, true_and, and_false, and_true, ite_false, ite_true, ↓reduceIte, reduceCtorEq]) (fun i => by simp only [gI_sI, Nat.reduceEqDiff, false_and, true_and, and_false, and_true, ite_false, ite_true, ↓reduceIte, reduceCtorEq])
