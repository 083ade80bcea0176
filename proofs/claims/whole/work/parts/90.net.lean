def bcI (x0 : Int32) : Int32 := ((((((((x0 - (((Int32.toUInt32 x0 >>> (Int32.toUInt32 1 &&& Int32.toUInt32 31)).toInt32) &&& 1431655765)) &&& 858993459) + (((Int32.toUInt32 (x0 - (((Int32.toUInt32 x0 >>> (Int32.toUInt32 1 &&& Int32.toUInt32 31)).toInt32) &&& 1431655765)) >>> (Int32.toUInt32 2 &&& Int32.toUInt32 31)).toInt32) &&& 858993459)) + ((Int32.toUInt32 (((x0 - (((Int32.toUInt32 x0 >>> (Int32.toUInt32 1 &&& Int32.toUInt32 31)).toInt32) &&& 1431655765)) &&& 858993459) + (((Int32.toUInt32 (x0 - (((Int32.toUInt32 x0 >>> (Int32.toUInt32 1 &&& Int32.toUInt32 31)).toInt32) &&& 1431655765)) >>> (Int32.toUInt32 2 &&& Int32.toUInt32 31)).toInt32) &&& 858993459)) >>> (Int32.toUInt32 4 &&& Int32.toUInt32 31)).toInt32)) &&& 252645135) + ((Int32.toUInt32 (((((x0 - (((Int32.toUInt32 x0 >>> (Int32.toUInt32 1 &&& Int32.toUInt32 31)).toInt32) &&& 1431655765)) &&& 858993459) + (((Int32.toUInt32 (x0 - (((Int32.toUInt32 x0 >>> (Int32.toUInt32 1 &&& Int32.toUInt32 31)).toInt32) &&& 1431655765)) >>> (Int32.toUInt32 2 &&& Int32.toUInt32 31)).toInt32) &&& 858993459)) + ((Int32.toUInt32 (((x0 - (((Int32.toUInt32 x0 >>> (Int32.toUInt32 1 &&& Int32.toUInt32 31)).toInt32) &&& 1431655765)) &&& 858993459) + (((Int32.toUInt32 (x0 - (((Int32.toUInt32 x0 >>> (Int32.toUInt32 1 &&& Int32.toUInt32 31)).toInt32) &&& 1431655765)) >>> (Int32.toUInt32 2 &&& Int32.toUInt32 31)).toInt32) &&& 858993459)) >>> (Int32.toUInt32 4 &&& Int32.toUInt32 31)).toInt32)) &&& 252645135) >>> (Int32.toUInt32 8 &&& Int32.toUInt32 31)).toInt32)) + ((Int32.toUInt32 ((((((x0 - (((Int32.toUInt32 x0 >>> (Int32.toUInt32 1 &&& Int32.toUInt32 31)).toInt32) &&& 1431655765)) &&& 858993459) + (((Int32.toUInt32 (x0 - (((Int32.toUInt32 x0 >>> (Int32.toUInt32 1 &&& Int32.toUInt32 31)).toInt32) &&& 1431655765)) >>> (Int32.toUInt32 2 &&& Int32.toUInt32 31)).toInt32) &&& 858993459)) + ((Int32.toUInt32 (((x0 - (((Int32.toUInt32 x0 >>> (Int32.toUInt32 1 &&& Int32.toUInt32 31)).toInt32) &&& 1431655765)) &&& 858993459) + (((Int32.toUInt32 (x0 - (((Int32.toUInt32 x0 >>> (Int32.toUInt32 1 &&& Int32.toUInt32 31)).toInt32) &&& 1431655765)) >>> (Int32.toUInt32 2 &&& Int32.toUInt32 31)).toInt32) &&& 858993459)) >>> (Int32.toUInt32 4 &&& Int32.toUInt32 31)).toInt32)) &&& 252645135) + ((Int32.toUInt32 (((((x0 - (((Int32.toUInt32 x0 >>> (Int32.toUInt32 1 &&& Int32.toUInt32 31)).toInt32) &&& 1431655765)) &&& 858993459) + (((Int32.toUInt32 (x0 - (((Int32.toUInt32 x0 >>> (Int32.toUInt32 1 &&& Int32.toUInt32 31)).toInt32) &&& 1431655765)) >>> (Int32.toUInt32 2 &&& Int32.toUInt32 31)).toInt32) &&& 858993459)) + ((Int32.toUInt32 (((x0 - (((Int32.toUInt32 x0 >>> (Int32.toUInt32 1 &&& Int32.toUInt32 31)).toInt32) &&& 1431655765)) &&& 858993459) + (((Int32.toUInt32 (x0 - (((Int32.toUInt32 x0 >>> (Int32.toUInt32 1 &&& Int32.toUInt32 31)).toInt32) &&& 1431655765)) >>> (Int32.toUInt32 2 &&& Int32.toUInt32 31)).toInt32) &&& 858993459)) >>> (Int32.toUInt32 4 &&& Int32.toUInt32 31)).toInt32)) &&& 252645135) >>> (Int32.toUInt32 8 &&& Int32.toUInt32 31)).toInt32)) >>> (Int32.toUInt32 16 &&& Int32.toUInt32 31)).toInt32)) &&& 63)
/-- a cell of the reference, but for its scratch rows -/
def isR (a : Nat) : Bool := Nat.ble 55 a && Nat.blt a 114 && !(a == 107 || a == 108 || a == 112 || a == 113)
theorem isR_lt {a : Nat} (h : isR a = true) : 55 ≤ a ∧ a < 114 := by
  unfold isR at h
  simp only [Bool.and_eq_true] at h
  exact ⟨Nat.le_of_ble_eq_true h.1.1, Nat.le_of_ble_eq_true h.1.2⟩
/-- Y is X as far as the reference reads, or as far as the class does -/
def Rf (X Y : gp_H) : Prop := ∀ a k, isR a = true → gI Y a k = gI X a k
def Cf (X Y : gp_H) : Prop := ∀ a k, (Nat.blt a 55 || Nat.ble 114 a) = true → gI Y a k = gI X a k
theorem rf_0 (X : gp_H) : Rf X X := fun _ _ _ => rfl
theorem cf_0 (X : gp_H) : Cf X X := fun _ _ _ => rfl
theorem cf_hm {S : gp_S} {X Y Z : gp_H} (g : Cf X Y) (h : Lay S Z) {j : Nat} (hj : j < S.1) (k : Nat) : gI Y (S.2.2.1 j) k = gI X (S.2.2.1 j) k := g _ k (by rw [Nat.ble_eq_true_of_le (h.2.2.2.2.1 j hj).2.2.1, Bool.or_true])
theorem cf_md {S : gp_S} {X Y Z : gp_H} (g : Cf X Y) (h : Lay S Z) {j : Nat} (hj : j < S.2.1) (k : Nat) : gI Y (S.2.2.2.1 j) k = gI X (S.2.2.2.1 j) k := g _ k (by rw [Nat.ble_eq_true_of_le (h.2.2.2.1 j hj).2.2.1, Bool.or_true])
def lowI (t : Int32) : Int32 := bcI ((t &&& (-t)) - 1)
section NET
variable {E : gp_E} {N : Nat → Nat} {S : gp_S} {X Y : gp_H}
theorem s_in_bitCount (hX : Lay S X) (x0 : Int32) : Ev E m_in_bitCount 0 [(0, .int x0)] [] X (0, 0) (gp_q (some (.int (bcI x0))) X) := b_in_bitCount_0 hX ⟨rfl, rfl⟩
theorem s_ga_lowestIn (hX : Lay S X) (x0 : Int32) : Ev E m_ga_lowestIn 0 [(0, .int x0)] [] X (0, 0) (gp_q (some (.int (lowI x0))) X) := b_ga_lowestIn_0 hX (wh_i (s_in_bitCount hX _) hX ⟨rfl, rfl⟩)
def lowC (m : Nat) : Bool := m == 0 || (Nat.blt (lowI (nI m)).toNatClampNeg 12 && decide (lowI (nI m) = nI (lowI (nI m)).toNatClampNeg) && m.testBit (lowI (nI m)).toNatClampNeg && decide ((nI m &&& (nI m - 1)) = (nI m ^^^ ((1 : Int32) <<< (nI (lowI (nI m)).toNatClampNeg &&& 31)))))
theorem low_tab : ∀ a, a < 16 → ∀ b, b < 256 → lowC (256 * a + b) = true := by decide +kernel
theorem lowP {t : Int32} (h : low 12 t) (h0 : ¬ t = 0) : ∃ k, k < 12 ∧ lowI t = nI k ∧ bt t k = true ∧ ∀ i, i < 32 → bt (t &&& (t - 1)) i = (bt t i && !decide (i = k)) := by
  obtain ⟨m, h1, h2, rfl⟩ := low_nat h
  have c := low_tab (m / 256) (by omega) (m % 256) (by omega)
  rw [Nat.div_add_mod] at c
  unfold lowC at c
  simp only [Bool.or_eq_true, Bool.and_eq_true, beq_iff_eq, decide_eq_true_eq] at c
  rcases c with c | ⟨⟨⟨c1, c2⟩, c3⟩, c4⟩
  · exact absurd (congrArg nI c) h0
  · have k12 : (lowI (nI m)).toNatClampNeg < 12 := Nat.le_of_ble_eq_true c1
    refine ⟨_, k12, c2, by rw [bt_nI h2]; exact c3, fun i hi => ?_⟩
    rw [c4, b_xor, bt_shl (by omega) hi]
    by_cases z : i = (lowI (nI m)).toNatClampNeg
    · rw [decide_eq_true z, z, bt_nI h2, c3]; rfl
    · rw [decide_eq_false z, Bool.xor_false, Bool.not_false, Bool.and_true]
/-- SPREAD -/
def spS (s m : Int32) (i : Nat) : Prop := bt s i = true ∧ bt m i = true
def spR (l : Nat → Int32) (m : Int32) (i j : Nat) : Prop := i < 12 ∧ bt (l i) j = true ∧ bt m j = true
theorem sp_loop {x1 m : Int32} {a : Nat} (hX : Lay S X) (ha : gp_at X a (13, 12)) (hm : low 12 m) : ∀ (d r : Nat) (s t : Int32), d + r = 12 → (∀ i, bt t i = true → bt s i = true) → low 12 s → (∀ i j, bt s i = true → bt t i = false → bt (gI X a i) j = true → bt m j = true → bt s j = true) → r ≤ ct (fun i => bt s i && !bt t i) 12 → (∀ i, spS x1 m i → bt s i = true) → (∀ i, bt s i = true → Clo (spS x1 m) (spR (gI X a) m) i) →
    Ev E m_ne_spread 12 [(0, .ref 1), (1, .int x1), (2, .int m), (3, .ref a), (4, .int s), (5, .int t), (6, .int (nI r))] [] X (0, 0) (gp_q (some (.int (ST (Clo (spS x1 m) (spR (gI X a) m))))) X) := by
  have fin : ∀ s t : Int32, (∀ i, bt t i = false) → (∀ i j, bt s i = true → bt t i = false → bt (gI X a i) j = true → bt m j = true → bt s j = true) → (∀ i, spS x1 m i → bt s i = true) → (∀ i, bt s i = true → Clo (spS x1 m) (spR (gI X a) m) i) → gp_q (some (.int (ST (Clo (spS x1 m) (spR (gI X a) m))))) X (some (.int s)) X := by
    intro s t ht hc h0 hC
    refine ⟨congrArg (fun z => some (Value.int z)) (ST_eq (fun i hi => ⟨hC i, fun c => ?_⟩)).symm, rfl⟩
    exact clo_in (fun i => bt s i = true) c h0 (fun i j p q => hc i j p (ht i) q.2.1 q.2.2)
  intro d
  induction d with
  | zero =>
    intro r s t hr hts hs hc hn h0 hC
    obtain rfl : r = 12 := by omega
    refine b_ne_spread_12 hX ha ⟨fun _ => fin s t (fun i => ?_) hc h0 hC, fun z => absurd (Int32.le_refl _) z⟩
    cases z : bt t i with
    | false => rfl
    | true =>
      have l := bt_lt hs (hts i z)
      have := ct_full hn i l
      rw [z, Bool.not_true, Bool.and_false] at this
      exact absurd this (by decide)
  | succ d ih =>
    intro r s t hr hts hs hc hn h0 hC
    have ht : low 12 t := fun i hi => by
      cases z : bt t i with
      | false => rfl
      | true => exact absurd (bt_lt hs (hts i z)) (by omega)
    refine b_ne_spread_12 hX ha ⟨fun z => absurd z (nI_nge (a := r) (b := 12) (by omega) (by omega)), fun _ => ⟨fun z => fin s t (fun i => by rw [z, b_0]) hc h0 hC, fun z => ?_⟩⟩
    obtain ⟨k, hk, e1, e2, e3⟩ := lowP ht z
    refine wh_i (s_ga_lowestIn hX t) hX ⟨ha, by rw [e1]; exact vin hk (by omega), ?_⟩
    rw [e1, nI_c (by omega), nI_s]
    have bf : ∀ j, j < 32 → bt (((gI X a k) &&& m) &&& (s ^^^ (-1))) j = ((bt (gI X a k) j && bt m j) && !bt s j) := fun j hj => by rw [b_and, b_and, bt_not _ hj]
    have hsk := hts k e2
    have ff : ∀ j, bt (((gI X a k) &&& m) &&& (s ^^^ (-1))) j = true → bt (gI X a k) j = true ∧ bt m j = true ∧ bt s j = false := fun j q => by
      rw [bf j (bt_32 q)] at q
      simp only [Bool.and_eq_true, Bool.not_eq_true'] at q
      exact ⟨q.1.1, q.1.2, q.2⟩
    have b2 : ∀ j, j < 32 → bt ((t &&& (t - 1)) ||| (((gI X a k) &&& m) &&& (s ^^^ (-1)))) j = ((bt t j && !decide (j = k)) || bt (((gI X a k) &&& m) &&& (s ^^^ (-1))) j) := fun j hj => by rw [b_or, e3 j hj]
    refine ih (r + 1) _ _ (by omega) (fun i hi => ?_) (low_or hs (low_and' (low_and hm))) (fun i j p1 p2 p3 p4 => ?_) ?_ (fun i hi => by rw [b_or, h0 i hi]; rfl) (fun i hi => ?_)
    · have l := bt_32 hi
      rw [b2 i l] at hi
      rw [b_or]
      rcases Bool.or_eq_true _ _ ▸ hi with q | q
      · rw [hts i (Bool.and_eq_true _ _ ▸ q).1]; rfl
      · rw [q, Bool.or_true]
    · have l := bt_32 p1
      rw [b2 i l, Bool.or_eq_false_iff] at p2
      rw [b_or, p2.2, Bool.or_false] at p1
      rw [b_or]
      cases zj : bt s j with
      | true => rfl
      | false =>
        rw [Bool.false_or]
        by_cases zk : i = k
        · subst zk
          rw [bf j (bt_32 p4), p3, p4, zj]; rfl
        · rw [decide_eq_false zk, Bool.not_false, Bool.and_true] at p2
          rw [hc i j p1 p2.1 p3 p4] at zj
          exact absurd zj (by decide)
    · refine Nat.lt_of_le_of_lt hn (ct_lt (k := k) (fun i hi q => ?_) hk ?_ ?_)
      · simp only [Bool.and_eq_true, Bool.not_eq_true'] at q ⊢
        rw [b2 i (by omega), bf i (by omega), b_or, q.1, q.2]
        exact ⟨rfl, by rw [Bool.false_and, Bool.not_true, Bool.and_false]; rfl⟩
      · show (bt s k && !bt t k) = false
        rw [e2, Bool.not_true, Bool.and_false]
      · show (bt _ k && !bt _ k) = true
        rw [b2 k (by omega), bf k (by omega), b_or, hsk, decide_eq_true rfl]
        rw [Bool.not_true, Bool.and_false, Bool.and_false]; rfl
    · rw [b_or] at hi
      rcases Bool.or_eq_true _ _ ▸ hi with q | q
      · exact hC i q
      · exact clo_s (hC k hsk) ⟨hk, (ff i q).1, (ff i q).2.1⟩
theorem s_spread {s m : Int32} {a : Nat} (hX : Lay S X) (ha : gp_at X a (13, 12)) (hm : low 12 m) : Ev E m_ne_spread 0 [(0, .ref 1), (1, .int s), (2, .int m), (3, .ref a)] [] X (0, 0) (gp_q (some (.int (ST (Clo (spS s m) (spR (gI X a) m))))) X) := by
  refine b_ne_spread_0 hX ha ?_
  refine sp_loop hX ha hm 12 0 _ _ rfl (fun i h => h) (low_and hm) (fun i j h1 h2 => ?_) (Nat.zero_le _) (fun i h => ?_) (fun i h => ?_)
  · rw [h1] at h2; exact absurd h2 (by decide)
  · rw [b_and, h.1, h.2]; rfl
  · rw [b_and, Bool.and_eq_true] at h
    exact clo_0 h
/-- REACH -/
def pA (X : gp_H) (p : Nat) : Nat := Int32.toNatClampNeg (gI X 56 p)
def pB (X : gp_H) (p : Nat) : Nat := Int32.toNatClampNeg (gI X 57 p)
theorem pAB (h : Inv N S X) {p : Nat} (hp : p < N 1) : pA X p < N 0 ∧ pB X p < N 0 ∧ N 0 ≤ 12 ∧ pA X p ≠ pB X p ∧ gI X 56 p = nI (pA X p) ∧ gI X 57 p = nI (pB X p) := by
  obtain ⟨⟨k1, k2, k3⟩, q1, q2, q3, -⟩ := h.net
  obtain ⟨i, j, hi, hj, ne, e1, e2⟩ := q3 p hp
  have a1 : pA X p = i := by unfold pA; rw [e1, nI_c (by omega)]
  have a2 : pB X p = j := by unfold pB; rw [e2, nI_c (by omega)]
  rw [a1, a2]
  exact ⟨hi, hj, k3, ne, e1, e2⟩
def rcR (N : Nat → Nat) (X : gp_H) (m o : Int32) (i j : Nat) : Prop := ∃ p, p < N 1 ∧ (¬ gI X 59 p = 0 ∨ o = 0) ∧ bt m (pA X p) = true ∧ bt m (pB X p) = true ∧ (i = pA X p ∨ i = pB X p) ∧ (j = pA X p ∨ j = pB X p)
noncomputable def rch (N : Nat → Nat) (X : gp_H) (s m o : Int32) : Int32 := ST (Clo (spS s m) (rcR N X m o))
theorem rc_in (h : Inv N S X) (hX : Lay S Y) (g : Rf X Y) {x1 m o prev s : Int32} {Q : Option Value → gp_H → Prop} (K : ∀ v : Int32, (∀ i, bt prev i = true → bt v i = true) → low 12 v → (∀ i, bt v i = true → Clo (spS s m) (rcR N X m o) i) → (v = prev → ∀ i j, bt v i = true → rcR N X m o i j → bt v j = true) → Ev E m_mo_reach 10 [(0, .ref 55), (1, .int x1), (2, .int m), (3, .int o), (4, .int v), (5, .int prev)] [] Y (0, 0) Q) :
    ∀ (d p : Nat) (v : Int32), d + p = N 1 → (∀ i, bt prev i = true → bt v i = true) → low 12 v → (∀ i, bt v i = true → Clo (spS s m) (rcR N X m o) i) → (v = prev → ∀ q, q < p → (¬ gI X 59 q = 0 ∨ o = 0) → bt m (pA X q) = true → bt m (pB X q) = true → bt v (pA X q) = true ∨ bt v (pB X q) = true → bt v (pA X q) = true ∧ bt v (pB X q) = true) →
    Ev E m_mo_reach 24 [(0, .ref 55), (1, .int x1), (2, .int m), (3, .int o), (4, .int v), (5, .int prev), (6, .int (nI p))] [] Y (0, 0) Q := by
  obtain ⟨-, ⟨k1, k2, k3⟩, -⟩ := h.net
  intro d
  induction d with
  | zero =>
    intro p v hp h1 h2 h3 h4
    obtain rfl : p = N 1 := by omega
    refine b_mo_reach_24 hX ⟨fun _ => K v h1 h2 h3 (fun e i j hi ⟨q, g1, g2, g3, g4, g5, g6⟩ => ?_), fun z => absurd (by rw [g 55 1 rfl, k2]; exact Int32.le_refl _) z⟩
    have := h4 e q g1 g2 g3 g4 (by rcases g5 with g | g <;> rw [← g] <;> simp [hi])
    rcases g6 with g | g <;> rw [g]
    · exact this.1
    · exact this.2
  | succ d ih =>
    intro p v hp h1 h2 h3 h4
    have hl : p < N 1 := by omega
    obtain ⟨a1, a2, a3, a4, a5, a6⟩ := pAB h hl
    have vi : vp_in (nI p) 20 := vin (by omega) (by omega)
    have sk : ((¬ gI X 59 p = 0 ∨ o = 0) → bt m (pA X p) = true → bt m (pB X p) = true → bt v (pA X p) = true ∨ bt v (pB X p) = true → bt v (pA X p) = true ∧ bt v (pB X p) = true) → Ev E m_mo_reach 24 [(0, .ref 55), (1, .int x1), (2, .int m), (3, .int o), (4, .int v), (5, .int prev), (6, .int (nI p + 1))] [] Y (0, 0) Q := by
      intro c
      rw [nI_s]
      refine ih (p + 1) v (by omega) h1 h2 h3 (fun e q hq => ?_)
      rcases Nat.lt_or_ge q p with z | z
      · exact h4 e q z
      · obtain rfl : q = p := by omega
        exact c
    have e79 : ((¬ gI X 59 p = 0 ∨ o = 0) → bt m (pA X p) = true → bt m (pB X p) = true → bt v (pA X p) = true ∨ bt v (pB X p) = true → bt v (pA X p) = true ∧ bt v (pB X p) = true) → Ev E m_mo_reach 79 [(0, .ref 55), (1, .int x1), (2, .int m), (3, .int o), (4, .int v), (5, .int prev), (6, .int (nI p))] [] Y (0, 0) Q := fun c => b_mo_reach_79 hX (b_mo_reach_80 hX ⟨fun _ => sk c, fun z => absurd rfl z⟩)
    have e47 : (¬ gI X 59 p = 0 ∨ o = 0) → Ev E m_mo_reach 47 [(0, .ref 55), (1, .int x1), (2, .int m), (3, .int o), (4, .int v), (5, .int prev), (6, .int (nI p))] [] Y (0, 0) Q := by
      intro go
      have hit : bt m (pA X p) = true → bt m (pB X p) = true → bt v (pA X p) = true ∨ bt v (pB X p) = true → Ev E m_mo_reach 117 [(0, .ref 55), (1, .int x1), (2, .int m), (3, .int o), (4, .int v), (5, .int prev), (6, .int (nI p)), (7, .int 1)] [] Y (0, 0) Q := by
        intro m1 m2 t
        refine b_mo_reach_117 hX ⟨vi, ?_⟩
        rw [nI_c (by omega), g 56 _ rfl, g 57 _ rfl, a5, a6, nI_s]
        have bb : ∀ i, i < 32 → bt (v ||| (((1 : Int32) <<< (nI (pA X p) &&& 31)) ||| ((1 : Int32) <<< (nI (pB X p) &&& 31)))) i = (bt v i || (decide (i = pA X p) || decide (i = pB X p))) := fun i hi => by rw [b_or, b_or, bt_shl (by omega) hi, bt_shl (by omega) hi]
        refine ih (p + 1) _ (by omega) (fun i hi => by rw [b_or, h1 i hi]; rfl) (low_or h2 (low_or (low_shl (by omega) (by omega)) (low_shl (by omega) (by omega)))) (fun i hi => ?_) (fun e q hq g1 g2 g3 g4 => ?_)
        · rw [bb i (bt_32 hi)] at hi
          simp only [Bool.or_eq_true, decide_eq_true_eq] at hi
          rcases hi with c | c
          · exact h3 i c
          · rcases t with t | t
            · exact clo_s (h3 _ t) ⟨p, hl, go, m1, m2, Or.inl rfl, c⟩
            · exact clo_s (h3 _ t) ⟨p, hl, go, m1, m2, Or.inr rfl, c⟩
        · rcases Nat.lt_or_ge q p with z | z
          · have ev : v = prev := b_ext (fun i _ => bt_iff ⟨fun c => by rw [← e, b_or, c]; rfl, h1 i⟩)
            obtain ⟨c1, c2, c3, -⟩ := pAB h (show q < N 1 by omega)
            have hv : v ||| (((1 : Int32) <<< (nI (pA X p) &&& 31)) ||| ((1 : Int32) <<< (nI (pB X p) &&& 31))) = v := e.trans ev.symm
            rw [hv] at g4 ⊢
            exact h4 ev q z g1 g2 g3 g4
          · obtain rfl : q = p := by omega
            rw [bb _ (by omega), bb _ (by omega), decide_eq_true rfl, decide_eq_true (rfl : pB X q = pB X q)]
            simp
      refine b_mo_reach_47 hX ⟨vi, ?_⟩
      rw [nI_c (by omega), g 56 _ rfl, g 57 _ rfl, a5, a6, gb_bt _ (by omega), gb_bt _ (by omega)]
      refine ⟨fun c => e79 (fun _ z => bnf c z), fun c => ⟨fun c2 => e79 (fun _ _ z => bnf c2 z), fun c2 => b_mo_reach_80 hX ⟨fun z => absurd z (by decide), fun _ => ⟨vi, ?_⟩⟩⟩⟩
      rw [nI_c (by omega), g 56 _ rfl, g 57 _ rfl, a5, a6, gb_bt _ (by omega), gb_bt _ (by omega)]
      exact ⟨fun c3 => hit c c2 (Or.inl c3), fun c3 => ⟨fun c4 => sk (fun _ _ _ z => z.elim (fun z => bnf c3 z) (fun z => bnf c4 z)), fun c4 => hit c c2 (Or.inr c4)⟩⟩
    refine b_mo_reach_24 hX ⟨fun z => absurd z (by rw [g 55 1 rfl, k2]; exact nI_nge hl (by omega)), fun _ => ⟨vi, ?_⟩⟩
    rw [nI_c (by omega), g 59 _ rfl]
    exact ⟨fun c => e47 (Or.inl c), fun c => ⟨fun c2 => e79 (fun z => absurd z (fun z => z.elim (fun z => z c) c2)), fun c2 => e47 (Or.inr c2)⟩⟩
theorem rc_out (h : Inv N S X) (hX : Lay S Y) (g : Rf X Y) {x1 m o s : Int32} : ∀ (n : Nat) (v prev : Int32), 12 ≤ ct (bt v) 12 + n → low 12 v → (∀ i, spS s m i → bt v i = true) → (∀ i, bt v i = true → Clo (spS s m) (rcR N X m o) i) → (v = prev → ∀ i j, bt v i = true → rcR N X m o i j → bt v j = true) →
    Ev E m_mo_reach 10 [(0, .ref 55), (1, .int x1), (2, .int m), (3, .int o), (4, .int v), (5, .int prev)] [] Y (0, 0) (gp_q (some (.int (rch N X s m o))) Y) := by
  have fin : ∀ v : Int32, (∀ i, spS s m i → bt v i = true) → (∀ i, bt v i = true → Clo (spS s m) (rcR N X m o) i) → (∀ i j, bt v i = true → rcR N X m o i j → bt v j = true) → gp_q (some (.int (rch N X s m o))) Y (some (.int v)) Y := by
    intro v h0 h1 h2
    exact ⟨congrArg (fun z => some (Value.int z)) (ST_eq (fun i hi => ⟨h1 i, fun c => clo_in (fun i => bt v i = true) c h0 h2⟩)).symm, rfl⟩
  intro n
  induction n with
  | zero =>
    intro v prev hn hl h0 h1 h2
    have full : ∀ i, i < 12 → bt v i = true := ct_full (by omega)
    have cl : ∀ i j, bt v i = true → rcR N X m o i j → bt v j = true := by
      rintro i j - ⟨p, g1, -, -, -, -, g6⟩
      obtain ⟨c1, c2, c3, -⟩ := pAB h g1
      rcases g6 with g | g <;> rw [g] <;> exact full _ (by omega)
    refine b_mo_reach_10 hX ⟨fun _ => fin v h0 h1 cl, fun _ => ?_⟩
    refine rc_in h hX g (s := s) (fun w a1 a2 a3 a4 => ?_) (N 1) 0 v (by omega) (fun i hi => hi) hl h1 (fun _ q hq => absurd hq (Nat.not_lt_zero _))
    have ew : w = v := low_ext a2 hl (fun i hi => by rw [full i hi, a1 i (full i hi)])
    subst ew
    exact b_mo_reach_10 hX ⟨fun _ => fin w h0 h1 cl, fun z => absurd rfl z⟩
  | succ n ih =>
    intro v prev hn hl h0 h1 h2
    refine b_mo_reach_10 hX ⟨fun z => fin v h0 h1 (h2 z.symm), fun _ => ?_⟩
    refine rc_in h hX g (s := s) (fun w a1 a2 a3 a4 => ?_) (N 1) 0 v (by omega) (fun i hi => hi) hl h1 (fun _ q hq => absurd hq (Nat.not_lt_zero _))
    by_cases z : w = v
    · subst z
      exact b_mo_reach_10 hX ⟨fun _ => fin w h0 h1 (a4 rfl), fun z => absurd rfl z⟩
    · refine ih w v ?_ a2 (fun i hi => a1 i (h0 i hi)) a3 a4
      have : ¬ ∀ i, i < 12 → bt w i = bt v i := fun c => z (low_ext a2 hl c)
      obtain ⟨k, hk⟩ := Classical.not_forall.mp this
      obtain ⟨hk1, hk2⟩ := Classical.not_imp.mp hk
      have k0 : bt v k = false := by
        cases q : bt v k with
        | false => rfl
        | true => exact absurd ((a1 k q).trans q.symm) hk2
      have k1 : bt w k = true := by
        cases q : bt w k with
        | true => rfl
        | false => exact absurd (q.trans k0.symm) hk2
      have := ct_lt (f := bt v) (g := bt w) (fun i _ => a1 i) hk1 k0 k1
      omega
theorem s_reach (h : Inv N S X) (hX : Lay S Y) (g : Rf X Y) {f : Nat} {m o : Int32} (hm : low 12 m) : Ev E m_mo_reach 0 [(0, .ref 55), (1, .int (nI f)), (2, .int m), (3, .int o)] [] Y (0, 0) (gp_q (some (.int (rch N X ((1 : Int32) <<< (nI f &&& 31)) m o))) Y) := by
  refine b_mo_reach_0 hX ?_
  refine rc_out h hX g 12 _ _ (by omega) (low_and hm) (fun i hi => by rw [b_and, hi.1, hi.2]; rfl) (fun i hi => ?_) (fun e i j hi => ?_)
  · rw [b_and, Bool.and_eq_true] at hi
    exact clo_0 hi
  · rw [e, b_0] at hi; exact absurd hi (by decide)
/-- the class' rows of neighbours -/
theorem near_bt (h : Inv N S X) (o : Nat → Int32) {k j : Nat} (hk : k < 32) (hj : j < 32) : ∀ n, n ≤ N 1 → (bt (nearF (gI X 56) (gI X 57) o k n) j = true ↔ ∃ p, p < n ∧ ¬ o p = 0 ∧ ((k = pA X p ∧ j = pB X p) ∨ (k = pB X p ∧ j = pA X p)))
  | 0, _ => ⟨fun z => by rw [nearF, b_0] at z; exact absurd z (by decide), fun ⟨p, hp, _⟩ => absurd hp (Nat.not_lt_zero _)⟩
  | n + 1, hn => by
    have ih := near_bt h o hk hj n (by omega)
    obtain ⟨a1, a2, a3, a4, a5, a6⟩ := pAB h (show n < N 1 by omega)
    rw [nearF, b_or, Bool.or_eq_true, ih, a5, a6]
    have e1 : (nI (pA X n) = nI k) ↔ k = pA X n := (nI_eq (by omega) (by omega)).trans eq_comm
    have e2 : (nI (pB X n) = nI k) ↔ k = pB X n := (nI_eq (by omega) (by omega)).trans eq_comm
    have b1 : bt ((if nI (pA X n) = nI k then (1 : Int32) <<< (nI (pB X n) &&& 31) else 0) ||| (if nI (pB X n) = nI k then (1 : Int32) <<< (nI (pA X n) &&& 31) else 0)) j = true ↔ ((k = pA X n ∧ j = pB X n) ∨ (k = pB X n ∧ j = pA X n)) := by
      rw [b_or, Bool.or_eq_true]
      refine or_congr ?_ ?_
      · by_cases z : k = pA X n
        · rw [if_pos (e1.mpr z), bt_shl (by omega) hj, decide_eq_true_eq]; exact ⟨fun q => ⟨z, q⟩, fun q => q.2⟩
        · rw [if_neg (fun q => z (e1.mp q)), b_0]; exact ⟨fun q => absurd q (by decide), fun q => absurd q.1 z⟩
      · by_cases z : k = pB X n
        · rw [if_pos (e2.mpr z), bt_shl (by omega) hj, decide_eq_true_eq]; exact ⟨fun q => ⟨z, q⟩, fun q => q.2⟩
        · rw [if_neg (fun q => z (e2.mp q)), b_0]; exact ⟨fun q => absurd q (by decide), fun q => absurd q.1 z⟩
    constructor
    · rintro (⟨p, hp, c⟩ | z)
      · exact ⟨p, by omega, c⟩
      · by_cases zo : o n = 0
        · rw [if_pos zo, b_0] at z; exact absurd z (by decide)
        · rw [if_neg zo] at z; exact ⟨n, by omega, zo, b1.mp z⟩
    · rintro ⟨p, hp, c1, c2⟩
      rcases Nat.lt_or_ge p n with q | q
      · exact Or.inl ⟨p, q, c1, c2⟩
      · obtain rfl : p = n := by omega
        refine Or.inr ?_
        rw [if_neg c1]; exact b1.mpr c2
/-- both ways to the same set -/
theorem clo_near (h : Inv N S X) {s m o : Int32} (l : Nat → Int32) (w : Nat → Int32) (hw : ∀ p, ¬ w p = 0 ↔ (¬ gI X 59 p = 0 ∨ o = 0)) (hl : ∀ k, k < 12 → l k = nearF (gI X 56) (gI X 57) w k (N 1)) (k : Nat) : Clo (spS s m) (spR l m) k ↔ Clo (spS s m) (rcR N X m o) k := by
  constructor
  · intro c
    refine clo_m (fun i => bt m i = true) c (fun i hi => ⟨hi.2, hi⟩) (fun i j hi hr => ⟨hr.2.2, ?_⟩)
    obtain ⟨r1, r2, r3⟩ := hr
    rw [hl i r1, near_bt h w (by omega) (bt_32 r2) (N 1) (Nat.le_refl _)] at r2
    obtain ⟨p, hp, c1, c2⟩ := r2
    rcases c2 with ⟨e1, e2⟩ | ⟨e1, e2⟩
    · exact ⟨p, hp, (hw p).mp c1, by rw [← e1]; exact hi, by rw [← e2]; exact r3, Or.inl e1, Or.inr e2⟩
    · exact ⟨p, hp, (hw p).mp c1, by rw [← e2]; exact r3, by rw [← e1]; exact hi, Or.inr e1, Or.inl e2⟩
  · intro c
    refine (clo_in (fun i => bt m i = true ∧ Clo (spS s m) (spR l m) i) c (fun i hi => ⟨hi.2, clo_0 hi⟩) (fun i j hi hr => ?_)).2
    obtain ⟨p, hp, c1, c2, c3, c4, c5⟩ := hr
    obtain ⟨a1, a2, a3, a4, a5, a6⟩ := pAB h hp
    by_cases z : i = j
    · rw [← z]; exact hi
    · have hj : bt m j = true := by rcases c5 with c5 | c5 <;> rw [c5] <;> assumption
      have i12 : i < 12 := by rcases c4 with c4 | c4 <;> rw [c4] <;> omega
      refine ⟨hj, clo_s hi.2 ⟨i12, ?_, hj⟩⟩
      · rw [hl i i12, near_bt h w (bt_32 hi.1) (bt_32 hj) (N 1) (Nat.le_refl _)]
        refine ⟨p, hp, (hw p).mpr c1, ?_⟩
        rcases c4 with c4 | c4 <;> rcases c5 with c5 | c5
        · exact absurd (c4.trans c5.symm) z
        · exact Or.inl ⟨c4, c5⟩
        · exact Or.inr ⟨c4, c5⟩
        · exact absurd (c4.trans c5.symm) z
theorem s_spread6 (h : Inv N S X) (hX : Lay S Y) (g : Cf X Y) {s m : Int32} (hm : low 12 m) : Ev E m_ne_spread 0 [(0, .ref 1), (1, .int s), (2, .int m), (3, .ref 6)] [] Y (0, 0) (gp_q (some (.int (rch N X s m 0))) Y) := by
  have e : rch N X s m 0 = ST (Clo (spS s m) (spR (gI X 6) m)) := ST_cg (fun i _ => (clo_near h (gI X 6) (fun _ => 1) (fun p => ⟨fun _ => Or.inr rfl, fun _ => by decide⟩) h.net.2.2.2.2.2.2.1 i).symm)
  rw [e]
  rw [← show gI Y 6 = gI X 6 from funext (fun k => g 6 k rfl)]
  exact s_spread hX (ly_at hX 6 rfl) hm
theorem s_spread7 (h : Inv N S X) (hX : Lay S Y) (g : Cf X Y) {s m : Int32} (hm : low 12 m) : Ev E m_ne_spread 0 [(0, .ref 1), (1, .int s), (2, .int m), (3, .ref 7)] [] Y (0, 0) (gp_q (some (.int (rch N X s m 1))) Y) := by
  have e : rch N X s m 1 = ST (Clo (spS s m) (spR (gI X 7) m)) := ST_cg (fun i _ => (clo_near h (gI X 7) (gI X 59) (fun p => ⟨fun q => Or.inl q, fun q => q.elim id (fun q => absurd q (by decide))⟩) h.net.2.2.2.2.2.2.2.1 i).symm)
  rw [e]
  rw [← show gI Y 7 = gI X 7 from funext (fun k => g 7 k rfl)]
  exact s_spread hX (ly_at hX 7 rfl) hm
/-- all knots -/
abbrev allm (n : Nat) : Int32 := ((1 : Int32) <<< (nI n &&& 31)) - 1
noncomputable def area (N : Nat → Nat) (X : gp_H) (k : Nat) : Int32 := rch N X ((1 : Int32) <<< (nI k &&& 31)) (allm (N 0)) 1
theorem low12 {n : Nat} (h : n ≤ 12) : low 12 (allm n) := low_mono (low_all (by omega)) h
theorem s_ne_areaOf' (h : Inv N S X) (hX : Lay S Y) (g : Cf X Y) (k : Nat) : Ev E m_ne_areaOf 0 [(0, .ref 1), (1, .int (nI k))] [] Y (0, 0) (gp_q (some (.int (area N X k))) Y) := by
  have hn := h.net.1
  refine b_ne_areaOf_0 hX ?_
  rw [g 1 0 rfl, hn.1]
  exact wh_i (s_spread7 h hX g (low12 hn.2.2)) hX ⟨rfl, rfl⟩
theorem s_ne_areaOf (h : Inv N S X) (k : Nat) : Ev E m_ne_areaOf 0 [(0, .ref 1), (1, .int (nI k))] [] X (0, 0) (gp_q (some (.int (area N X k))) X) := s_ne_areaOf' h h.lay (cf_0 X) k
theorem s_mo_areaOf' (h : Inv N S X) (hX : Lay S Y) (g : Rf X Y) (k : Nat) : Ev E m_mo_areaOf 0 [(0, .ref 55), (1, .int (nI k))] [] Y (0, 0) (gp_q (some (.int (area N X k))) Y) := by
  have hn := h.net.1
  refine b_mo_areaOf_0 hX ?_
  rw [g 55 0 rfl, hn.2.1]
  exact wh_i (s_reach h hX g (low12 hn.2.2)) hX ⟨rfl, rfl⟩
theorem s_mo_areaOf (h : Inv N S X) (k : Nat) : Ev E m_mo_areaOf 0 [(0, .ref 55), (1, .int (nI k))] [] X (0, 0) (gp_q (some (.int (area N X k))) X) := s_mo_areaOf' h h.lay (rf_0 X) k
end NET
theorem p_area {E : gp_E} {N : Nat → Nat} {S : gp_S} {X : gp_H} (h : Inv N S X) (x1 : Int32) : Ev E m_ga_area 0 [(0, .ref 0), (1, .int x1)] [] X (0, 0) (gp_two E m_mo_area [(0, .ref 55), (1, .int x1)]) := by
  have hL := h.lay
  have hn := h.net.1
  refine b_ga_area_0 hL ?_
  rw [hn.1]
  have R := fun {Q} => b_mo_area_0 (E := E) (x1 := x1) (Q := Q) hL
  rw [hn.2.1] at R
  refine ⟨fun c => ?_, fun c => ⟨_, S, rfl, hL, R ⟨fun _ => ⟨rfl, N, h⟩, fun z => bnf c z⟩⟩⟩
  obtain ⟨k, hk, rfl⟩ := iw_nI (by omega) c
  exact wh_i (s_ne_areaOf h k) hL ⟨_, S, rfl, hL, R ⟨fun z => bne c z, fun _ => wh_i (s_mo_areaOf h k) hL ⟨rfl, N, h⟩⟩⟩
