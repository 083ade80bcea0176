def bt (x : Int32) (i : Nat) : Bool := x.toBitVec.getLsbD i
theorem b_ext {x y : Int32} (h : ∀ i, i < 32 → bt x i = bt y i) : x = y := Int32.toBitVec_inj.mp (BitVec.eq_of_getLsbD_eq (fun i hi => h i hi))
theorem b_or (x y : Int32) (i : Nat) : bt (x ||| y) i = (bt x i || bt y i) := by unfold bt; rw [Int32.toBitVec_or, BitVec.getLsbD_or]
theorem b_and (x y : Int32) (i : Nat) : bt (x &&& y) i = (bt x i && bt y i) := by unfold bt; rw [Int32.toBitVec_and, BitVec.getLsbD_and]
theorem b_xor (x y : Int32) (i : Nat) : bt (x ^^^ y) i = (bt x i ^^ bt y i) := by unfold bt; rw [Int32.toBitVec_xor, BitVec.getLsbD_xor]
theorem b_big {x : Int32} {i : Nat} (h : 32 ≤ i) : bt x i = false := BitVec.getLsbD_of_ge _ _ h
theorem b_m1 : ∀ i, i < 32 → bt (-1) i = true := by decide +kernel
theorem b_0 (i : Nat) : bt 0 i = false := BitVec.getLsbD_zero
theorem s_l : ∀ n, n < 32 → ((nI n &&& 31).toBitVec.smod 32).toNat = n := by decide +kernel
theorem b_shl (n : Nat) (hn : n < 32) (x : Int32) {i : Nat} (hi : i < 32) : bt (x <<< (nI n &&& 31)) i = (decide (n ≤ i) && bt x (i - n)) := by
  unfold bt
  rw [Int32.toBitVec_shiftLeft]
  show (x.toBitVec <<< ((nI n &&& 31).toBitVec.smod 32).toNat).getLsbD i = _
  rw [s_l n hn, BitVec.getLsbD_shiftLeft]
  rcases Nat.lt_or_ge i n with h | h
  · simp [h, Nat.not_le.mpr h]
  · simp [hi, h, Nat.not_lt.mpr h]
theorem b_sshr (n : Nat) (hn : n < 32) (x : Int32) {i : Nat} (hi : i < 32) : bt (x >>> (nI n &&& 31)) i = if n + i < 32 then bt x (n + i) else bt x 31 := by
  unfold bt
  rw [Int32.toBitVec_shiftRight]
  show (x.toBitVec.sshiftRight ((nI n &&& 31).toBitVec.smod 32).toNat).getLsbD i = _
  rw [s_l n hn, BitVec.getLsbD_sshiftRight, BitVec.msb_eq_getLsbD_last]
  simp [hi]
theorem gb_bt (s : Int32) {k : Nat} (hk : k < 32) : gb s (nI k) = bt s k := by
  unfold gb
  have h0 : bt ((s >>> (nI k &&& 31)) &&& 1) 0 = bt s k := by
    rw [b_and, b_sshr k hk s (by omega), if_pos (by omega), show bt 1 0 = true from by decide, Bool.and_true, Nat.add_zero]
  rcases and_one (s >>> (nI k &&& 31)) with h | h
  · rw [h] at h0 ⊢
    rw [← h0]; decide
  · rw [h] at h0 ⊢
    rw [← h0]; decide
theorem bt_1 : ∀ i, i < 32 → bt 1 i = decide (i = 0) := by decide +kernel
theorem bt_shl {n i : Nat} (hn : n < 32) (hi : i < 32) : bt ((1 : Int32) <<< (nI n &&& 31)) i = decide (i = n) := by
  rw [b_shl n hn 1 hi]
  by_cases h : n ≤ i
  · rw [decide_eq_true h, Bool.true_and, bt_1 _ (by omega)]
    exact decide_eq_decide.mpr (by omega)
  · rw [decide_eq_false h, Bool.false_and]
    exact (decide_eq_false (by omega)).symm
theorem bt_not (x : Int32) {i : Nat} (hi : i < 32) : bt (x ^^^ (-1)) i = !bt x i := by rw [b_xor, b_m1 i hi, Bool.xor_true]
theorem bt_all : ∀ n, n < 21 → ∀ i, i < 32 → bt (((1 : Int32) <<< (nI n &&& 31)) - 1) i = decide (i < n) := by decide +kernel
theorem bt_nI {m i : Nat} (h : m < 2 ^ 32) : bt (nI m) i = m.testBit i := by
  show (nI m).toBitVec.toNat.testBit i = _
  rw [pk_tn h]
theorem of32 (x : Int32) : ∃ m, m < 2 ^ 32 ∧ x = nI m :=
  ⟨x.toBitVec.toNat, x.toBitVec.isLt, Int32.toBitVec_inj.mp (BitVec.eq_of_toNat_eq (pk_tn x.toBitVec.isLt).symm)⟩
/-- no bit from n on -/
def low (n : Nat) (x : Int32) : Prop := ∀ i, n ≤ i → bt x i = false
theorem low_nat {n : Nat} {x : Int32} (h : low n x) : ∃ m, m < 2 ^ n ∧ m < 2 ^ 32 ∧ x = nI m := by
  obtain ⟨m, hm, rfl⟩ := of32 x
  exact ⟨m, Nat.lt_pow_two_of_testBit m (fun i hi => by rw [← bt_nI hm]; exact h i hi), hm, rfl⟩
theorem low_of {n m : Nat} (h : m < 2 ^ n) (hm : m < 2 ^ 32) : low n (nI m) := fun i hi => by
  rw [bt_nI hm]
  exact Nat.testBit_lt_two_pow (Nat.lt_of_lt_of_le h (Nat.pow_le_pow_right (by omega) hi))
theorem low_mono {n k : Nat} {x : Int32} (h : low n x) (hk : n ≤ k) : low k x := fun i hi => h i (by omega)
theorem low_and {n : Nat} {x y : Int32} (h : low n y) : low n (x &&& y) := fun i hi => by rw [b_and, h i hi, Bool.and_false]
theorem low_and' {n : Nat} {x y : Int32} (h : low n x) : low n (x &&& y) := fun i hi => by rw [b_and, h i hi, Bool.false_and]
theorem low_or {n : Nat} {x y : Int32} (h : low n x) (h2 : low n y) : low n (x ||| y) := fun i hi => by rw [b_or, h i hi, h2 i hi]; rfl
theorem low_0 (n : Nat) : low n 0 := fun i _ => b_0 i
theorem low_shl {n k : Nat} (h : k < n) (hk : k < 32) : low n ((1 : Int32) <<< (nI k &&& 31)) := fun i hi => by
  rcases Nat.lt_or_ge i 32 with q | q
  · rw [bt_shl hk q]; exact decide_eq_false (by omega)
  · exact b_big q
theorem low_all {n : Nat} (h : n < 21) : low n (((1 : Int32) <<< (nI n &&& 31)) - 1) := fun i hi => by
  rcases Nat.lt_or_ge i 32 with q | q
  · rw [bt_all n h i q]; exact decide_eq_false (by omega)
  · exact b_big q
theorem low_ext {n : Nat} {x y : Int32} (hx : low n x) (hy : low n y) (h : ∀ i, i < n → bt x i = bt y i) : x = y := b_ext (fun i _ => by
  rcases Nat.lt_or_ge i n with q | q
  · exact h i q
  · rw [hx i q, hy i q])
theorem shl_N : ∀ n, n < 21 → (1 : Int32) <<< (nI n &&& 31) = nI (2 ^ n) := by decide +kernel
/-- a set of the first n -/
theorem low_lt {n : Nat} {x : Int32} (hn : n < 21) : low n x ↔ 0 ≤ x ∧ x < (1 : Int32) <<< (nI n &&& 31) := by
  have hp : 2 ^ n < 2 ^ 21 := Nat.pow_lt_pow_right (by omega) hn
  rw [shl_N n hn]
  constructor
  · intro h
    obtain ⟨m, h1, h2, rfl⟩ := low_nat h
    exact ⟨nI_pos' (by omega), nI_lt h1 (by omega)⟩
  · rintro ⟨h1, h2⟩
    obtain ⟨m, hm, rfl⟩ := nI_of (x := x) (fun z => Int32.lt_irrefl (Int32.lt_of_lt_of_le z h1))
    exact low_of ((nI_ltI hm (by omega)).mp h2) (by omega)
/-- within: nothing outside of the first n -/
theorem low_in {n : Nat} {x : Int32} (hn : n < 21) : x &&& ((((1 : Int32) <<< (nI n &&& 31)) - 1) ^^^ (-1)) = 0 ↔ low n x := by
  constructor
  · intro h i hi
    rcases Nat.lt_or_ge i 32 with q | q
    · have := congrArg (fun z => bt z i) h
      simp only [b_and, bt_not _ q, bt_all n hn i q, b_0, decide_eq_false (show ¬ i < n by omega), Bool.not_false, Bool.and_true] at this
      exact this
    · exact b_big q
  · intro h
    refine b_ext (fun i q => ?_)
    rw [b_and, bt_not _ q, bt_all n hn i q, b_0]
    by_cases z : i < n
    · rw [decide_eq_true z, Bool.not_true, Bool.and_false]
    · rw [h i (by omega), Bool.false_and]
/-- how many of the first n -/
def ct (f : Nat → Bool) : Nat → Nat
  | 0 => 0
  | n + 1 => ct f n + (if f n then 1 else 0)
theorem ct_le (f : Nat → Bool) : ∀ n, ct f n ≤ n
  | 0 => Nat.le_refl 0
  | n + 1 => by have := ct_le f n; unfold ct; split <;> omega
theorem ct_mono {f g : Nat → Bool} : ∀ {n : Nat}, (∀ i, i < n → f i = true → g i = true) → ct f n ≤ ct g n
  | 0, _ => Nat.le_refl 0
  | n + 1, h => by
    have i := ct_mono (n := n) (fun i hi => h i (by omega))
    have l := h n (by omega)
    unfold ct
    by_cases z : f n = true
    · rw [if_pos z, if_pos (l z)]; omega
    · rw [if_neg z]; omega
theorem ct_lt {f g : Nat → Bool} {k : Nat} : ∀ {n : Nat}, (∀ i, i < n → f i = true → g i = true) → k < n → f k = false → g k = true → ct f n < ct g n
  | 0, _, h, _, _ => absurd h (Nat.not_lt_zero _)
  | n + 1, h, hk, h1, h2 => by
    unfold ct
    rcases Nat.lt_or_ge k n with q | q
    · have i := ct_lt (n := n) (fun i hi => h i (by omega)) q h1 h2
      have l := h n (by omega)
      by_cases z : f n = true
      · rw [if_pos z, if_pos (l z)]; omega
      · rw [if_neg z]; omega
    · obtain rfl : k = n := by omega
      have i := ct_mono (n := k) (fun i hi => h i (by omega))
      rw [h1, h2]
      simp only [Bool.false_eq_true, if_false, if_true]
      omega
theorem ct_full {f : Nat → Bool} : ∀ {n : Nat}, n ≤ ct f n → ∀ i, i < n → f i = true
  | 0, _, _, hi => absurd hi (Nat.not_lt_zero _)
  | n + 1, h, i, hi => by
    unfold ct at h
    have l := ct_le f n
    by_cases z : f n = true
    · rw [if_pos z] at h
      rcases Nat.lt_or_ge i n with q | q
      · exact ct_full (by omega) i q
      · obtain rfl : i = n := by omega
        exact z
    · rw [if_neg z] at h; omega
/-- sets by what they hold -/
theorem mk_set (P : Nat → Prop) : ∀ n, n ≤ 32 → ∃ v : Int32, (∀ i, i < n → (bt v i = true ↔ P i)) ∧ low n v
  | 0, _ => ⟨0, fun i hi => absurd hi (Nat.not_lt_zero _), low_0 0⟩
  | n + 1, hn => by
    obtain ⟨v, h1, h2⟩ := mk_set P n (by omega)
    by_cases z : P n
    · refine ⟨v ||| ((1 : Int32) <<< (nI n &&& 31)), fun i hi => ?_, low_or (low_mono h2 (by omega)) (low_shl (by omega) (by omega))⟩
      rw [b_or, bt_shl (by omega) (by omega)]
      rcases Nat.lt_or_ge i n with q | q
      · rw [decide_eq_false (by omega), Bool.or_false]; exact h1 i q
      · obtain rfl : i = n := by omega
        rw [decide_eq_true rfl, Bool.or_true]
        exact ⟨fun _ => z, fun _ => rfl⟩
    · refine ⟨v, fun i hi => ?_, low_mono h2 (by omega)⟩
      rcases Nat.lt_or_ge i n with q | q
      · exact h1 i q
      · obtain rfl : i = n := by omega
        rw [h2 i (Nat.le_refl _)]
        exact ⟨fun h => absurd h (by decide), fun h => absurd h z⟩
noncomputable def ST (P : Nat → Prop) : Int32 := Classical.choose (mk_set P 32 (Nat.le_refl _))
theorem ST_bt {P : Nat → Prop} {i : Nat} (hi : i < 32) : bt (ST P) i = true ↔ P i := (Classical.choose_spec (mk_set P 32 (Nat.le_refl _))).1 i hi
theorem bt_iff {a b : Bool} (h : a = true ↔ b = true) : a = b := by
  cases a <;> cases b <;> simp_all
theorem ST_eq {P : Nat → Prop} {v : Int32} (h : ∀ i, i < 32 → (bt v i = true ↔ P i)) : v = ST P := b_ext (fun i hi => bt_iff ((h i hi).trans (ST_bt hi).symm))
theorem ST_cg {P P' : Nat → Prop} (h : ∀ i, i < 32 → (P i ↔ P' i)) : ST P = ST P' := ST_eq (fun i hi => (ST_bt hi).trans (h i hi))
theorem ST_low {P : Nat → Prop} {n : Nat} (h : ∀ i, P i → i < n) : low n (ST P) := fun i hi => by
  rcases Nat.lt_or_ge i 32 with q | q
  · cases z : bt (ST P) i with
    | false => rfl
    | true => exact absurd (h i ((ST_bt q).mp z)) (by omega)
  · exact b_big q
theorem bt_lt {n i : Nat} {x : Int32} (h : low n x) (z : bt x i = true) : i < n := by
  rcases Nat.lt_or_ge i n with q | q
  · exact q
  · rw [h i q] at z; exact absurd z (by decide)
theorem bt_32 {i : Nat} {x : Int32} (z : bt x i = true) : i < 32 := bt_lt (n := 32) (fun i h => b_big h) z
/-- what comes of a start by steps -/
def Clo (s : Nat → Prop) (r : Nat → Nat → Prop) (k : Nat) : Prop := ∀ P : Nat → Prop, (∀ i, s i → P i) → (∀ i j, P i → r i j → P j) → P k
theorem clo_0 {s : Nat → Prop} {r : Nat → Nat → Prop} {k : Nat} (h : s k) : Clo s r k := fun _ a _ => a k h
theorem clo_s {s : Nat → Prop} {r : Nat → Nat → Prop} {i j : Nat} (h : Clo s r i) (hr : r i j) : Clo s r j := fun P a b => b i j (h P a b) hr
theorem clo_m {s s' : Nat → Prop} {r r' : Nat → Nat → Prop} {k : Nat} (C : Nat → Prop) (h : Clo s r k) (h0 : ∀ i, s i → C i ∧ s' i) (h1 : ∀ i j, C i → r i j → C j ∧ r' i j) : Clo s' r' k :=
  (h (fun i => C i ∧ Clo s' r' i) (fun i hi => ⟨(h0 i hi).1, clo_0 (h0 i hi).2⟩) (fun i j p hr => ⟨(h1 i j p.1 hr).1, clo_s p.2 (h1 i j p.1 hr).2⟩)).2
theorem clo_in {s : Nat → Prop} {r : Nat → Nat → Prop} {k : Nat} (C : Nat → Prop) (h : Clo s r k) (h0 : ∀ i, s i → C i) (h1 : ∀ i j, C i → r i j → C j) : C k := h C h0 h1
