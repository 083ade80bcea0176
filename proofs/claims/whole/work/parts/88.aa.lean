def fr : Nat → Nat → Nat → Bool
  | 1, a, i => !(a == 2 || a == 3 || a == 4 || a == 5 || a == 56 || a == 57 || a == 58 || a == 59 || a == 6 || a == 7 || (a == 1 && i == 0) || (a == 55 && i == 0) || (a == 1 && i == 1) || (a == 55 && i == 1) || (a == 1 && i == 8) || (a == 55 && i == 11))
  | 2, a, i => !(a == 8 || a == 9 || a == 10 || a == 11 || a == 60 || a == 61 || a == 62 || a == 63 || (a == 1 && i == 9) || (a == 55 && i == 6))
  | 3, a, i => !(a == 12 || a == 64)
  | 4, a, i => !(a == 65 || a == 66 || a == 67 || a == 68 || a == 69 || (a == 0 && i == 4) || (a == 55 && i == 13))
  | 5, a, i => !(a == 70 || a == 71 || a == 72 || a == 73 || a == 74 || a == 75 || a == 76 || a == 77 || a == 78 || (a == 0 && i == 6) || (a == 55 && i == 19))
  | 6, a, i => !(a == 78 || (a == 55 && i == 56))
  | 7, a, i => !(a == 17 || a == 18 || a == 79 || a == 80 || (a == 0 && i == 9) || (a == 55 && i == 29))
  | 8, a, i => !(a == 19 || a == 81)
  | 9, a, i => !(a == 20 || a == 21 || a == 22 || a == 82 || a == 83 || a == 84 || (a == 0 && i == 14) || (a == 55 && i == 33))
  | 10, a, i => !(a == 24 || a == 85 || a == 86 || (a == 23 && i == 1) || (a == 55 && i == 37) || (a == 23 && i == 3))
  | 11, a, i => !(a == 25 || a == 87 || a == 86 || (a == 23 && i == 4) || (a == 55 && i == 40))
  | 12, a, i => !(a == 26 || a == 88 || (a == 23 && i == 6) || (a == 55 && i == 42))
  | 13, a, i => !((a == 0 && i == 16) || (a == 55 && i == 44))
  | 14, a, i => !(a == 32 || a == 33 || a == 34 || a == 35 || a == 89 || a == 90 || a == 91 || a == 92 || (a == 31 && i == 0) || (a == 55 && i == 45))
  | 15, a, i => !(a == 36 || a == 37 || a == 38 || a == 39 || a == 93 || a == 94 || a == 95 || a == 96 || (a == 31 && i == 5) || (a == 55 && i == 50))
  | 16, a, i => !((a == 31 && i == 10) || (a == 55 && i == 55))
  | 17, a, i => !(a == 42 || a == 43 || a == 44 || a == 45 || a == 46 || a == 97 || a == 98 || a == 99 || a == 100 || a == 101 || (a == 40 && i == 2) || (a == 55 && i == 57))
  | 18, a, i => !(a == 41 || a == 102 || (a == 40 && i == 0) || (a == 55 && i == 64))
  | 19, a, i => !(a == 14 || a == 103 || (a == 13 && i == 1) || (a == 55 && i == 65))
  | 20, a, i => !(a == 49 || a == 50 || a == 51 || a == 52 || a == 53 || a == 54 || a == 104 || a == 105 || a == 106)
  | 21, a, i => !(a == 110 || a == 111)
  | _, _, _ => true
/-- the invariant, but for the parts that m leaves out -/
def InvX (m : Nat → Bool) (N : Nat → Nat) (S : gp_S) (X : gp_H) : Prop := Lay S X ∧ (m 1 = true → I_net N X) ∧ (m 2 = true → I_wrk N X) ∧ (m 3 = true → I_stp X) ∧ (m 4 = true → I_mod S X) ∧ (m 5 = true → I_hom N S X) ∧ (m 6 = true → I_flt S X) ∧ (m 7 = true → I_sur N S X) ∧ (m 8 = true → I_stk X) ∧ (m 9 = true → I_ord N X) ∧ (m 10 = true → I_sec N X) ∧ (m 11 = true → I_pln N X) ∧ (m 12 = true → I_row N X) ∧ (m 13 = true → I_wek N X) ∧ (m 14 = true → I_fit N X) ∧ (m 15 = true → I_sml N X) ∧ (m 16 = true → I_lim X) ∧ (m 17 = true → I_law N X) ∧ (m 18 = true → I_tap N X) ∧ (m 19 = true → I_trc X) ∧ (m 20 = true → I_she X) ∧ (m 21 = true → I_txt X)
theorem X_0 {N : Nat → Nat} {S : gp_S} {X : gp_H} (h : Inv N S X) : InvX (fun _ => true) N S X := ⟨h.lay, fun _ => h.net, fun _ => h.wrk, fun _ => h.stp, fun _ => h.mod, fun _ => h.hom, fun _ => h.flt, fun _ => h.sur, fun _ => h.stk, fun _ => h.ord, fun _ => h.sec, fun _ => h.pln, fun _ => h.row, fun _ => h.wek, fun _ => h.fit, fun _ => h.sml, fun _ => h.lim, fun _ => h.law, fun _ => h.tap, fun _ => h.trc, fun _ => h.she, fun _ => h.txt⟩
theorem X_sI {m : Nat → Bool} {N : Nat → Nat} {S : gp_S} {X : gp_H} {a k : Nat} {v : Int32} (h : InvX m N S X) (ha : Nat.blt a 114 = true := by rfl) : InvX (fun i => m i && fr i a k) N S (gp_sI X a k v) := by
  have ha : a < 114 := Nat.le_of_ble_eq_true ha
  refine ⟨h.1, fun q => ?_, fun q => ?_, fun q => ?_, fun q => ?_, fun q => ?_, fun q => ?_, fun q => ?_, fun q => ?_, fun q => ?_, fun q => ?_, fun q => ?_, fun q => ?_, fun q => ?_, fun q => ?_, fun q => ?_, fun q => ?_, fun q => ?_, fun q => ?_, fun q => ?_, fun q => ?_, fun q => ?_⟩
  · simp only [Bool.and_eq_true, fr, Bool.not_eq_true', Bool.or_eq_false_iff, Bool.and_eq_false_iff, beq_eq_false_iff_ne] at q
    exact I_net_sI (by omega) (h.2.1 q.1)
  · simp only [Bool.and_eq_true, fr, Bool.not_eq_true', Bool.or_eq_false_iff, Bool.and_eq_false_iff, beq_eq_false_iff_ne] at q
    exact I_wrk_sI (by omega) (h.2.2.1 q.1)
  · simp only [Bool.and_eq_true, fr, Bool.not_eq_true', Bool.or_eq_false_iff, Bool.and_eq_false_iff, beq_eq_false_iff_ne] at q
    exact I_stp_sI (by omega) (h.2.2.2.1 q.1)
  · simp only [Bool.and_eq_true, fr, Bool.not_eq_true', Bool.or_eq_false_iff, Bool.and_eq_false_iff, beq_eq_false_iff_ne] at q
    exact I_mod_sI h.1 ha (by omega) (by omega) (by omega) (h.2.2.2.2.1 q.1)
  · simp only [Bool.and_eq_true, fr, Bool.not_eq_true', Bool.or_eq_false_iff, Bool.and_eq_false_iff, beq_eq_false_iff_ne] at q
    exact I_hom_sI h.1 ha (by omega) (by omega) (by omega) (h.2.2.2.2.2.1 q.1)
  · simp only [Bool.and_eq_true, fr, Bool.not_eq_true', Bool.or_eq_false_iff, Bool.and_eq_false_iff, beq_eq_false_iff_ne] at q
    exact I_flt_sI (by omega) (h.2.2.2.2.2.2.1 q.1)
  · simp only [Bool.and_eq_true, fr, Bool.not_eq_true', Bool.or_eq_false_iff, Bool.and_eq_false_iff, beq_eq_false_iff_ne] at q
    exact I_sur_sI h.1 ha (by omega) (by omega) (by omega) (h.2.2.2.2.2.2.2.1 q.1)
  · simp only [Bool.and_eq_true, fr, Bool.not_eq_true', Bool.or_eq_false_iff, Bool.and_eq_false_iff, beq_eq_false_iff_ne] at q
    exact I_stk_sI (by omega) (h.2.2.2.2.2.2.2.2.1 q.1)
  · simp only [Bool.and_eq_true, fr, Bool.not_eq_true', Bool.or_eq_false_iff, Bool.and_eq_false_iff, beq_eq_false_iff_ne] at q
    exact I_ord_sI (by omega) (h.2.2.2.2.2.2.2.2.2.1 q.1)
  · simp only [Bool.and_eq_true, fr, Bool.not_eq_true', Bool.or_eq_false_iff, Bool.and_eq_false_iff, beq_eq_false_iff_ne] at q
    exact I_sec_sI (by omega) (h.2.2.2.2.2.2.2.2.2.2.1 q.1)
  · simp only [Bool.and_eq_true, fr, Bool.not_eq_true', Bool.or_eq_false_iff, Bool.and_eq_false_iff, beq_eq_false_iff_ne] at q
    exact I_pln_sI (by omega) (h.2.2.2.2.2.2.2.2.2.2.2.1 q.1)
  · simp only [Bool.and_eq_true, fr, Bool.not_eq_true', Bool.or_eq_false_iff, Bool.and_eq_false_iff, beq_eq_false_iff_ne] at q
    exact I_row_sI (by omega) (h.2.2.2.2.2.2.2.2.2.2.2.2.1 q.1)
  · simp only [Bool.and_eq_true, fr, Bool.not_eq_true', Bool.or_eq_false_iff, Bool.and_eq_false_iff, beq_eq_false_iff_ne] at q
    exact I_wek_sI (by omega) (h.2.2.2.2.2.2.2.2.2.2.2.2.2.1 q.1)
  · simp only [Bool.and_eq_true, fr, Bool.not_eq_true', Bool.or_eq_false_iff, Bool.and_eq_false_iff, beq_eq_false_iff_ne] at q
    exact I_fit_sI (by omega) (h.2.2.2.2.2.2.2.2.2.2.2.2.2.2.1 q.1)
  · simp only [Bool.and_eq_true, fr, Bool.not_eq_true', Bool.or_eq_false_iff, Bool.and_eq_false_iff, beq_eq_false_iff_ne] at q
    exact I_sml_sI (by omega) (h.2.2.2.2.2.2.2.2.2.2.2.2.2.2.2.1 q.1)
  · simp only [Bool.and_eq_true, fr, Bool.not_eq_true', Bool.or_eq_false_iff, Bool.and_eq_false_iff, beq_eq_false_iff_ne] at q
    exact I_lim_sI (by omega) (h.2.2.2.2.2.2.2.2.2.2.2.2.2.2.2.2.1 q.1)
  · simp only [Bool.and_eq_true, fr, Bool.not_eq_true', Bool.or_eq_false_iff, Bool.and_eq_false_iff, beq_eq_false_iff_ne] at q
    exact I_law_sI (by omega) (h.2.2.2.2.2.2.2.2.2.2.2.2.2.2.2.2.2.1 q.1)
  · simp only [Bool.and_eq_true, fr, Bool.not_eq_true', Bool.or_eq_false_iff, Bool.and_eq_false_iff, beq_eq_false_iff_ne] at q
    exact I_tap_sI (by omega) (h.2.2.2.2.2.2.2.2.2.2.2.2.2.2.2.2.2.2.1 q.1)
  · simp only [Bool.and_eq_true, fr, Bool.not_eq_true', Bool.or_eq_false_iff, Bool.and_eq_false_iff, beq_eq_false_iff_ne] at q
    exact I_trc_sI (by omega) (h.2.2.2.2.2.2.2.2.2.2.2.2.2.2.2.2.2.2.2.1 q.1)
  · simp only [Bool.and_eq_true, fr, Bool.not_eq_true', Bool.or_eq_false_iff, Bool.and_eq_false_iff, beq_eq_false_iff_ne] at q
    exact I_she_sI (by omega) (h.2.2.2.2.2.2.2.2.2.2.2.2.2.2.2.2.2.2.2.2.1 q.1)
  · simp only [Bool.and_eq_true, fr, Bool.not_eq_true', Bool.or_eq_false_iff, Bool.and_eq_false_iff, beq_eq_false_iff_ne] at q
    exact I_txt_sI (by omega) (h.2.2.2.2.2.2.2.2.2.2.2.2.2.2.2.2.2.2.2.2.2 q.1)
theorem iv_get {m : Nat → Bool} {N : Nat → Nat} {S : gp_S} {X : gp_H} (N' : Nat → Nat) (hx : InvX m N S X) (f : InvX m N S X → Inv N' S X) : ∃ N, Inv N S X := ⟨N', f hx⟩
/-- a loop, from its end -/
theorem dn {P : Nat → Prop} {n : Nat} (fin : P n) (step : ∀ k, k < n → P (k + 1) → P k) : P 0 := by
  have : ∀ d, d ≤ n → P (n - d) := by
    intro d
    induction d with
    | zero => intro _; exact fin
    | succ d ih => intro hd; exact step _ (by omega) (by rw [show n - (d + 1) + 1 = n - d by omega]; exact ih (by omega))
  have := this n (Nat.le_refl n)
  rw [Nat.sub_self] at this
  exact this
section WH
variable {E : gp_E} {y : gp_M} {L : List (Nat × Value)} {S : gp_S} {X X1 : gp_H} {u : Nat × Nat} {N : Nat → Nat}
theorem wh_i {w : Int32} {A : Int32 → gp_H → Prop} (s : Ev E y 0 L [] X u (gp_q (some (.int w)) X1)) (l : Lay S X1) (k : A w X1) : ∃ Qz, Ev E y 0 L [] X u Qz ∧ ∀ r X', Qz r X' → ∃ v : Int32, r = some (.int v) ∧ Lay S X' ∧ A v X' :=
  ⟨_, s, fun r X' hq => by obtain ⟨rfl, rfl⟩ := hq; exact ⟨w, rfl, l, k⟩⟩
theorem wh_n {A : gp_H → Prop} (s : Ev E y 0 L [] X u (gp_q none X1)) (l : Lay S X1) (k : A X1) : ∃ Qz, Ev E y 0 L [] X u Qz ∧ ∀ r X', Qz r X' → r = none ∧ Lay S X' ∧ A X' :=
  ⟨_, s, fun r X' hq => by obtain ⟨rfl, rfl⟩ := hq; exact ⟨rfl, l, k⟩⟩
theorem hA_no {x1 : Int32} (h : Inv N S X) (c : iw x1 0 (nI S.1 - 1) = false) : Ev E m_ga_homeAt 0 [(0, .ref 0), (1, .int x1)] [] X (0, 0) (gp_q (some .null) X) := by
  have k := h.hom.1.1
  refine b_ga_homeAt_0 h.lay ⟨fun _ => ⟨rfl, rfl⟩, fun z => ?_⟩
  rw [k] at z
  exact bnf c z
theorem hA_ok {j : Nat} (h : Inv N S X) (hj : j < S.1) : Ev E m_ga_homeAt 0 [(0, .ref 0), (1, .int (nI j))] [] X (0, 0) (gp_q (some (.ref (S.2.2.1 j))) X) := by
  have k := h.hom.1.1
  have l := h.lay.2.2.2.2.1 j hj
  have l40 : S.1 ≤ 40 := h.lay.2.2.2.2.2.2.2.2
  refine b_ga_homeAt_0 h.lay ⟨fun z => ?_, fun z => ⟨vin (by omega) (by omega), S.2.2.1 j, ?_, l.2.1, rfl, rfl⟩⟩
  · rw [k, iw_of hj (by omega)] at z
    exact absurd z (by decide)
  · rw [nI_c (by omega)]; exact l.1
theorem wh_home {x1 : Int32} {A : Nat → gp_H → Prop} {B : gp_H → Prop} (h : Inv N S X) (h1 : ∀ j, j < S.1 → x1 = nI j → A (S.2.2.1 j) X) (h2 : iw x1 0 (nI S.1 - 1) = false → B X) : ∃ Qz, Ev E m_ga_homeAt 0 [(0, .ref 0), (1, .int x1)] [] X (0, 0) Qz ∧ ∀ r X4, Qz r X4 → (∃ a : Nat, r = some (.ref a) ∧ gp_at X4 a (3, 0) ∧ Lay S X4 ∧ A a X4) ∨ (r = some .null ∧ Lay S X4 ∧ B X4) := by
  have l40 : S.1 ≤ 40 := h.lay.2.2.2.2.2.2.2.2
  cases c : iw x1 0 (nI S.1 - 1) with
  | false => exact ⟨_, hA_no h c, fun r X4 hq => by obtain ⟨rfl, rfl⟩ := hq; exact Or.inr ⟨rfl, h.lay, h2 c⟩⟩
  | true =>
    obtain ⟨j, hj, rfl⟩ := iw_nI (by omega) c
    exact ⟨_, hA_ok h hj, fun r X4 hq => by obtain ⟨rfl, rfl⟩ := hq; exact Or.inl ⟨_, rfl, (h.lay.2.2.2.2.1 j hj).2.1, h.lay, h1 j hj rfl⟩⟩
theorem wh_model {x1 : Int32} {A : Nat → Nat → gp_H → Prop} {B : gp_H → Prop} (h : Inv N S X) (h1 : ∀ j, j < S.2.1 → x1 = nI j → A (S.2.2.2.1 j) (S.2.2.2.2.1 j) X) (h2 : iw x1 0 (nI S.2.1 - 1) = false → B X) : ∃ Qz, Ev E m_ga_modelAt 0 [(0, .ref 0), (1, .int x1)] [] X (0, 0) Qz ∧ ∀ r X4, Qz r X4 → (∃ a k : Nat, r = some (.ref a) ∧ gp_at X4 a (k, 0) ∧ (k < 13 ∧ gp_gid k = 7) ∧ Lay S X4 ∧ A a k X4) ∨ (r = some .null ∧ Lay S X4 ∧ B X4) := by
  have k := h.mod.1.1
  have l12 : S.2.1 ≤ 12 := h.lay.2.2.2.2.2.2.2.1
  cases c : iw x1 0 (nI S.2.1 - 1) with
  | false =>
    refine ⟨_, (b_ga_modelAt_0 (Q := gp_q (some .null) X) h.lay ⟨fun z => ?_, fun z => ?_⟩), fun r X4 hq => by obtain ⟨rfl, rfl⟩ := hq; exact Or.inr ⟨rfl, h.lay, h2 c⟩⟩
    all_goals first | exact ⟨rfl, rfl⟩ | (rw [k] at z; exact bnf c z)
  | true =>
    obtain ⟨j, hj, rfl⟩ := iw_nI (by omega) c
    have l := h.lay.2.2.2.1 j hj
    refine ⟨_, (b_ga_modelAt_0 (Q := gp_q (some (.ref (S.2.2.2.1 j))) X) h.lay ⟨fun z => ?_, fun z => ?_⟩), fun r X4 hq => by obtain ⟨rfl, rfl⟩ := hq; exact Or.inl ⟨_, _, rfl, l.2.1, l.2.2.2.2, h.lay, h1 j hj rfl⟩⟩
    · rw [k, c] at z; exact absurd z (by decide)
    · refine ⟨vin (by omega) (by omega), S.2.2.2.1 j, S.2.2.2.2.1 j, ?_, l.2.1, l.2.2.2.2, rfl, rfl⟩
      rw [nI_c (by omega)]; exact l.1
end WH
