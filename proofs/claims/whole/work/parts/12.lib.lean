/-! numbers and sums -/
theorem gI_sI {X : gp_H} {a k i j : Nat} {v : Int32} : (gp_sI X a k v).2.2.2.1 i j = if i = a ∧ j = k then v else X.2.2.2.1 i j := rfl
theorem gI_wI {X : gp_H} {f : Nat → Nat → Int32} {i j : Nat} : (gp_wI X f).2.2.2.1 i j = f i j := rfl
/-- f 0 and on up to f (n - 1) -/
def sm (f : Nat → Int32) : Nat → Int32
  | 0 => 0
  | n + 1 => sm f n + f n
theorem sm_congr {f g : Nat → Int32} {n : Nat} (h : ∀ k, k < n → f k = g k) : sm f n = sm g n := by
  induction n with
  | zero => rfl
  | succ n ih => rw [sm, sm, ih (fun k hk => h k (by omega)), h n (by omega)]
theorem nI_s (k : Nat) : nI k + 1 = nI (k + 1) := (nI_succ k).symm
theorem nI_c {k : Nat} (h : k < 2147483648) : Int32.toNatClampNeg (nI k) = k := nI_clamp (by omega)
theorem vin {k n : Nat} (h : k < n) (hn : n ≤ 100000) : vp_in (nI k) n := vp_in_nI h (by omega)
theorem nI_nge {a b : Nat} (h : a < b) (hb : b ≤ 100000) : ¬ nI b ≤ nI a := nI_ge h (by omega)
theorem nI_gee {a b : Nat} (h : b ≤ a) (hb : a ≤ 100000) : nI b ≤ nI a := nI_le h (by omega)
theorem nI_ltt {a b : Nat} (h : a < b) (hb : b ≤ 100000) : nI a < nI b := nI_lt h (by omega)
theorem nI_1' : (1 : Int32) = nI 1 := rfl
/-- what an index that was looked at is -/
theorem iw_nI {v : Int32} {n : Nat} (hn : n ≤ 100000) (h : iw v 0 (nI n - 1) = true) : ∃ k, k < n ∧ v = nI k := by
  unfold iw at h
  rw [Bool.and_eq_true, decide_eq_true_eq, decide_eq_true_eq] at h
  have h0 : ¬ v < 0 := Int32.not_lt.mpr h.1
  obtain ⟨j, hj, rfl⟩ := nI_of h0
  refine ⟨j, ?_, rfl⟩
  have h1 := h.2
  rw [Int32.le_iff_toInt_le, nI_toInt hj, nI_1', pk_sub_toInt (by omega) (by omega)] at h1
  omega
theorem iw_of {k n : Nat} (h : k < n) (hn : n ≤ 100000) : iw (nI k) 0 (nI n - 1) = true := by
  unfold iw
  rw [Bool.and_eq_true, decide_eq_true_eq, decide_eq_true_eq]
  refine ⟨by rw [Int32.le_iff_toInt_le, nI_toInt (by omega)]; exact Int.natCast_nonneg k, ?_⟩
  rw [Int32.le_iff_toInt_le, nI_toInt (by omega), nI_1', pk_sub_toInt (by omega) (by omega)]
  omega
theorem iw_ab {v a b : Int32} (h : iw v a b = true) : a ≤ v ∧ v ≤ b := by
  unfold iw at h
  rw [Bool.and_eq_true, decide_eq_true_eq, decide_eq_true_eq] at h
  exact h
theorem ifl_iw (v : Int32) : ifl v = iw v 0 1 := by
  unfold ifl iw
  by_cases h0 : v = 0
  · subst h0; decide
  · by_cases h1 : v = 1
    · subst h1; decide
    · rw [decide_eq_false h0, decide_eq_false h1]
      by_cases h2 : 0 ≤ v
      · have : ¬ v ≤ 1 := by
          intro h3
          rw [Int32.le_iff_toInt_le] at h2 h3
          have e0 : (0 : Int32).toInt = 0 := by decide
          have e1 : (1 : Int32).toInt = 1 := by decide
          rw [e0] at h2
          rw [e1] at h3
          rcases (show v.toInt = 0 ∨ v.toInt = 1 by omega) with h | h
          · exact h0 (gp_eqi h e0)
          · exact h1 (gp_eqi h e1)
        rw [decide_eq_false this, Bool.and_false]; rfl
      · rw [decide_eq_false h2]; rfl
/-- a small index: how many there are -/
theorem iw_lt {v : Int32} {n : Nat} (m : Int32) (hm : m.toInt = (n : Int)) (h : iw v 0 m = true) : ∃ k, k ≤ n ∧ v = nI k := by
  obtain ⟨h1, h2⟩ := iw_ab h
  exact nI_of2 hm (Int32.not_lt.mpr h1) h2
