/-! THE INVARIANT: class (cells 0 .. 54, homes, models) and reference (cells 55 .. 113). N: how many there are: 0 knots, 1 pipes, 2 works, 5 surveys, 6 orders, 7 sectors, 8 of the plan, 9 fitters, 10 smells, 11 of the best row, 12 laws, 13 the week, 14 bytes; models and homes are in S -/
def is01 (v : Int32) : Prop := v = 0 ∨ v = 1
/-- neighbours of a knot: over the first n pipes that count -/
def nearF (a b o : Nat → Int32) (k : Nat) : Nat → Int32
  | 0 => 0
  | n + 1 => nearF a b o k n ||| (if o n = 0 then 0 else (if a n = nI k then (1 : Int32) <<< (b n &&& 31) else 0) ||| (if b n = nI k then (1 : Int32) <<< (a n &&& 31) else 0))
def I_net (N : Nat → Nat) (X : gp_H) : Prop :=
  (gI X 1 0 = nI (N 0) ∧ gI X 55 0 = nI (N 0) ∧ N 0 ≤ 12) ∧ (gI X 1 1 = nI (N 1) ∧ gI X 55 1 = nI (N 1) ∧ N 1 ≤ 20) ∧
  (∀ p, gI X 2 p = gI X 56 p ∧ gI X 3 p = gI X 57 p ∧ gI X 4 p = gI X 58 p ∧ gI X 5 p = gI X 59 p) ∧
  (∀ p, p < N 1 → ∃ i j, i < N 0 ∧ j < N 0 ∧ i ≠ j ∧ gI X 56 p = nI i ∧ gI X 57 p = nI j) ∧ (∀ p, is01 (gI X 58 p) ∧ is01 (gI X 59 p)) ∧ (∀ p, p < N 1 → gI X 58 p = 0 → gI X 59 p = 1) ∧
  (∀ k, k < 12 → gI X 6 k = nearF (gI X 56) (gI X 57) (fun _ => 1) k (N 1)) ∧ (∀ k, k < 12 → gI X 7 k = nearF (gI X 56) (gI X 57) (gI X 59) k (N 1)) ∧
  (gI X 1 8 = gI X 55 11 ∧ (gI X 55 11 = -1 ∨ ∃ t, t < N 0 ∧ gI X 55 11 = nI t))
def I_wrk (N : Nat → Nat) (X : gp_H) : Prop :=
  (gI X 1 9 = nI (N 2) ∧ gI X 55 6 = nI (N 2) ∧ N 2 ≤ 5) ∧ (∀ w, gI X 8 w = gI X 60 w ∧ gI X 9 w = gI X 61 w ∧ gI X 10 w = gI X 62 w ∧ gI X 11 w = gI X 63 w) ∧
  (∀ w, w < N 2 → ∃ i m c, i < N 0 ∧ gI X 60 w = nI i ∧ 1 ≤ m ∧ m ≤ 500 ∧ gI X 61 w = nI m ∧ c ≤ 9999 ∧ gI X 62 w = nI c) ∧ ∀ w, is01 (gI X 63 w)
def I_stp (X : gp_H) : Prop := ∀ i, gI X 12 i = gI X 64 i
/-- the kind of a model's cell -/
def kdF (c : Nat) : Int32 := if c = 6 then 1 else if c = 2 then 2 else if c = 1 then 3 else 0
def I_mod (S : gp_S) (X : gp_H) : Prop :=
  (gI X 0 4 = nI S.2.1 ∧ gI X 55 13 = nI S.2.1) ∧ ∀ j, j < S.2.1 → (gI X (S.2.2.2.1 j) 1 = nI j ∧ gI X (S.2.2.2.1 j) 2 = gI X 66 j ∧ gI X (S.2.2.2.1 j) 3 = gI X 67 j ∧ gI X (S.2.2.2.1 j) 4 = gI X 68 j ∧ gI X (S.2.2.2.1 j) 5 = gI X 69 j ∧ gI X 65 j = kdF (S.2.2.2.2.1 j)) ∧
    ∃ a b c d, a < 5 ∧ gI X 66 j = nI a ∧ 1 ≤ b ∧ b ≤ 9 ∧ gI X 67 j = nI b ∧ 1 ≤ c ∧ c ≤ 8 ∧ gI X 68 j = nI c ∧ d ≤ 3 ∧ gI X 69 j = nI d
def I_hom (N : Nat → Nat) (S : gp_S) (X : gp_H) : Prop :=
  (gI X 0 6 = nI S.1 ∧ gI X 55 19 = nI S.1) ∧ ∀ j, j < S.1 → (gI X (S.2.2.1 j) 0 = gI X 70 j ∧ gI X (S.2.2.1 j) 1 = gI X 71 j ∧ gI X (S.2.2.1 j) 2 = gI X 72 j ∧ gI X 73 j = nI (S.2.2.2.2.2 j) ∧ gI X (S.2.2.1 j) 4 = gI X 74 j ∧ gI X (S.2.2.1 j) 5 = gI X 75 j ∧ gI X (S.2.2.1 j) 6 = gI X 76 j ∧ gI X (S.2.2.1 j) 7 = gI X 77 j ∧ gI X (S.2.2.1 j) 8 = gI X 78 j) ∧
    (∃ a b c, a < N 0 ∧ gI X 70 j = nI a ∧ 1 ≤ b ∧ b ≤ 20 ∧ gI X 71 j = nI b ∧ c ≤ 31 ∧ gI X 72 j = nI c) ∧ (gI X 74 j = 0 ∨ gI X 74 j = 1 ∨ gI X 74 j = 2) ∧ is01 (gI X 78 j) ∧ (gI X 78 j = 1 → gI X 74 j = 1)
/-- FAULTS are counted -/
def I_flt (S : gp_S) (X : gp_H) : Prop := gI X 55 56 = sm (gI X 78) S.1 ∧ ∀ j, S.1 ≤ j → gI X 78 j = 0
/-- the number of the latest survey of home j among the first i (from 1 on; 0: none) -/
def lastF (f : Nat → Int32) (j : Nat) : Nat → Nat
  | 0 => 0
  | i + 1 => if f i = nI j then i + 1 else lastF f j i
def I_sur (N : Nat → Nat) (S : gp_S) (X : gp_H) : Prop :=
  (gI X 0 9 = nI (N 5) ∧ gI X 55 29 = nI (N 5) ∧ N 5 ≤ 300) ∧ (∀ i, i < N 5 → gI X 17 (i + 1) = gI X 80 i ∧ (∃ j, j < S.1 ∧ gI X 79 i = nI j ∧ gI X 18 (i + 1) = nI (lastF (gI X 79) j i)) ∧ 0 < gI X 80 i ∧ gI X 80 i < (1 : Int32) <<< (nI S.2.1 &&& 31)) ∧
  ∀ j, j < S.1 → gI X (S.2.2.1 j) 9 = nI (lastF (gI X 79) j (N 5))
def I_stk (X : gp_H) : Prop := ∀ i, gI X 19 i = gI X 81 i ∧ ∃ n, n ≤ 9999 ∧ gI X 81 i = nI n
def I_ord (N : Nat → Nat) (X : gp_H) : Prop := (gI X 0 14 = nI (N 6) ∧ gI X 55 33 = nI (N 6) ∧ N 6 ≤ 30) ∧ (∀ i, gI X 20 i = gI X 82 i ∧ gI X 21 i = gI X 83 i ∧ gI X 22 i = gI X 84 i) ∧ ∀ i, i < N 6 → ∃ a b c, a < 5 ∧ gI X 82 i = nI a ∧ 1 ≤ b ∧ b ≤ 999 ∧ gI X 83 i = nI b ∧ c ≤ 200 ∧ gI X 84 i = nI c
def I_sec (N : Nat → Nat) (X : gp_H) : Prop := (gI X 23 1 = nI (N 7) ∧ gI X 55 37 = nI (N 7) ∧ N 7 ≤ 7) ∧ (∀ i, gI X 24 i = gI X 85 i) ∧ (∀ i, i < N 7 → 0 < gI X 85 i ∧ gI X 85 i < (1 : Int32) <<< (nI (N 0) &&& 31)) ∧
  (∀ i j, i < N 7 → j < N 7 → i ≠ j → gI X 85 i &&& gI X 85 j = 0) ∧ (∀ i, is01 (gI X 86 i)) ∧ (∀ i, i < N 7 → gb (gI X 23 3) (nI i) = !decide (gI X 86 i = 0)) ∧ 0 ≤ gI X 23 3 ∧ gI X 23 3 < (1 : Int32) <<< (nI (N 7) &&& 31) ∧ ∀ i, N 7 ≤ i → gI X 86 i = 0
def I_pln (N : Nat → Nat) (X : gp_H) : Prop := (gI X 23 4 = nI (N 8) ∧ gI X 55 40 = nI (N 8) ∧ N 8 ≤ 7) ∧ (∀ i, i < N 8 → gI X 25 i = gI X 87 i ∧ ∃ s, s < N 7 ∧ gI X 87 i = nI s ∧ gI X 86 s = 0) ∧ ∀ i j, i < N 8 → j < N 8 → gI X 87 i = gI X 87 j → i = j
def I_row (N : Nat → Nat) (X : gp_H) : Prop := (gI X 23 6 = nI (N 11) ∧ gI X 55 42 = nI (N 11) ∧ N 11 ≤ 7) ∧ ∀ i, i < N 11 → gI X 26 i = gI X 88 i
def I_wek (N : Nat → Nat) (X : gp_H) : Prop := gI X 0 16 = nI (N 13) ∧ gI X 55 44 = nI (N 13) ∧ N 13 ≤ 200
def I_fit (N : Nat → Nat) (X : gp_H) : Prop := (gI X 31 0 = nI (N 9) ∧ gI X 55 45 = nI (N 9) ∧ N 9 ≤ 8) ∧ (∀ i, gI X 32 i = gI X 89 i ∧ gI X 33 i = gI X 90 i ∧ gI X 34 i = gI X 91 i ∧ gI X 35 i = gI X 92 i) ∧ (∀ i, i < N 9 → ∃ a b c d, a ≤ 15 ∧ gI X 89 i = nI a ∧ 1 ≤ b ∧ b ≤ 10 ∧ gI X 90 i = nI b ∧ c < N 0 ∧ gI X 91 i = nI c ∧ d ≤ 9999 + 100 * N 10 ∧ gI X 92 i = nI d) ∧ ∀ i, ∃ d, d ≤ 9999 + 100 * N 10 ∧ gI X 92 i = nI d
def I_sml (N : Nat → Nat) (X : gp_H) : Prop := (gI X 31 5 = nI (N 10) ∧ gI X 55 50 = nI (N 10) ∧ N 10 ≤ 30) ∧ (∀ i, gI X 36 i = gI X 93 i ∧ gI X 37 i = gI X 94 i ∧ gI X 38 i = gI X 95 i ∧ gI X 39 i = gI X 96 i) ∧ ∀ i, i < N 10 → ∃ a, a ≤ 9999 ∧ gI X 94 i = nI a
def I_lim (X : gp_H) : Prop := gI X 31 10 = gI X 55 55
def I_law (N : Nat → Nat) (X : gp_H) : Prop := (gI X 40 2 = nI (N 12) ∧ gI X 55 57 = nI (N 12) ∧ N 12 ≤ 10) ∧ (∀ i, i < N 12 → gI X 43 i = gI X 97 i ∧ gI X 44 i = gI X 98 i ∧ ((gI X 42 i = 0 ∧ gI X 101 i = 1 ∧ gI X 45 i = gI X 99 i) ∨ (gI X 42 i = 1 ∧ gI X 101 i = 0 ∧ gI X 46 i = gI X 100 i))) ∧ ∀ i, is01 (gI X 42 i) ∧ is01 (gI X 101 i)
def I_tap (N : Nat → Nat) (X : gp_H) : Prop := (gI X 40 0 = nI (N 14) ∧ gI X 55 64 = nI (N 14) ∧ N 14 ≤ 60) ∧ ∀ i, gI X 41 i = gI X 102 i ∧ ∃ b, b ≤ 255 ∧ gI X 102 i = nI b
def I_trc (X : gp_H) : Prop := (gI X 13 1 = gI X 55 65 ∧ ∃ n, n ≤ 100 ∧ gI X 55 65 = nI n) ∧ ∀ i, gI X 14 i = gI X 103 i
def I_she (X : gp_H) : Prop := ∀ s, s < 3 → gI X 49 s = gI X 104 s ∧ (gI X 104 s = -1 ∨ gI X 104 s = 0 ∨ gI X 104 s = 1 ∨ gI X 104 s = 2) ∧ (gI X 104 s ≠ -1 → gI X 50 s = gI X 105 s ∧ (∃ n, n ≤ 40 ∧ gI X 105 s = nI n) ∧ ∀ i, i < 40 → gI X (52 + s) i = gI X 106 (40 * s + i))
def barF : List Int32 := [98, 97, 114, 32, 115, 101, 99, 116, 111, 114, 32, 0, 32, 119, 101, 101, 107, 32, 1, 32, 116, 111, 32, 2]
def payF : List Int32 := [112, 97, 121, 32, 3, 32, 99, 108, 97, 115, 115, 32, 0, 32, 102, 114, 111, 109, 32, 119, 101, 101, 107, 32, 1]
def I_txt (X : gp_H) : Prop := (∀ i, i < 24 → gI X 110 i = barF.getD i 0) ∧ ∀ i, i < 25 → gI X 111 i = payF.getD i 0
/-- all of it; what is written in a net's cell leaves the others as they are by their numbers alone -/
def Inv (N : Nat → Nat) (S : gp_S) (X : gp_H) : Prop := Lay S X ∧ I_net N X ∧ I_wrk N X ∧ I_stp X ∧ I_mod S X ∧ I_hom N S X ∧ I_flt S X ∧ I_sur N S X ∧ I_stk X ∧ I_ord N X ∧ I_sec N X ∧ I_pln N X ∧ I_row N X ∧ I_wek N X ∧ I_fit N X ∧ I_sml N X ∧ I_lim X ∧ I_law N X ∧ I_tap N X ∧ I_trc X ∧ I_she X ∧ I_txt X
/-- the class has answered; the reference answers the same, and all holds again -/
def gp_two (E : gp_E) (z : gp_M) (L : List (Nat × Value)) : Option Value → gp_H → Prop := fun r X1 => ∃ (v : Int32) (S : gp_S), r = some (.int v) ∧ Lay S X1 ∧ Ev E z 0 L [] X1 (0, 0) (fun r2 X2 => r2 = some (.int v) ∧ ∃ N, Inv N S X2)
/-- a fixed cell is no home's and no model's -/
theorem gI_hm {S : gp_S} {X : gp_H} {a k i j : Nat} {v : Int32} (h : Lay S X) (hj : j < S.1) (ha : a < 114) : gI (gp_sI X a k v) (S.2.2.1 j) i = gI X (S.2.2.1 j) i := by
  have h1 : 114 ≤ S.2.2.1 j := (h.2.2.2.2.1 j hj).2.2.1
  show (if _ then _ else _) = _
  rw [if_neg (fun q => by omega)]
theorem gI_md {S : gp_S} {X : gp_H} {a k i j : Nat} {v : Int32} (h : Lay S X) (hj : j < S.2.1) (ha : a < 114) : gI (gp_sI X a k v) (S.2.2.2.1 j) i = gI X (S.2.2.2.1 j) i := by
  have h1 : 114 ≤ S.2.2.2.1 j := (h.2.2.2.1 j hj).2.2.1
  show (if _ then _ else _) = _
  rw [if_neg (fun q => by omega)]
/-- homes, models and surveys are as they were where their own cells are -/
theorem I_mod_cg {S : gp_S} {X X' : gp_H} (h0 : gI X' 0 4 = gI X 0 4) (h1 : gI X' 55 13 = gI X 55 13) (hr : ∀ i, 65 ≤ i → i ≤ 69 → ∀ k, gI X' i k = gI X i k) (hm : ∀ j, j < S.2.1 → ∀ k, gI X' (S.2.2.2.1 j) k = gI X (S.2.2.2.1 j) k) (h : I_mod S X) : I_mod S X' := by
  unfold I_mod at h ⊢
  rw [h0, h1]
  refine ⟨h.1, fun j hj => ?_⟩
  have := h.2 j hj
  simp only [hm j hj, hr 65 (by omega) (by omega), hr 66 (by omega) (by omega), hr 67 (by omega) (by omega), hr 68 (by omega) (by omega), hr 69 (by omega) (by omega)]
  exact this
theorem I_hom_cg {N N' : Nat → Nat} {S : gp_S} {X X' : gp_H} (hN : N 0 ≤ N' 0) (h0 : gI X' 0 6 = gI X 0 6) (h1 : gI X' 55 19 = gI X 55 19) (hr : ∀ i, 70 ≤ i → i ≤ 78 → ∀ k, gI X' i k = gI X i k) (hm : ∀ j, j < S.1 → ∀ k, gI X' (S.2.2.1 j) k = gI X (S.2.2.1 j) k) (h : I_hom N S X) : I_hom N' S X' := by
  unfold I_hom at h ⊢
  rw [h0, h1]
  refine ⟨h.1, fun j hj => ?_⟩
  have := h.2 j hj
  simp only [hm j hj, hr 70 (by omega) (by omega), hr 71 (by omega) (by omega), hr 72 (by omega) (by omega), hr 73 (by omega) (by omega), hr 74 (by omega) (by omega), hr 75 (by omega) (by omega), hr 76 (by omega) (by omega), hr 77 (by omega) (by omega), hr 78 (by omega) (by omega)]
  obtain ⟨g1, ⟨a, b, c, ga, gr⟩, g3⟩ := this
  exact ⟨g1, ⟨a, b, c, by omega, gr⟩, g3⟩
theorem I_sur_cg {N N' : Nat → Nat} {S : gp_S} {X X' : gp_H} (hN : N' 5 = N 5) (h0 : gI X' 0 9 = gI X 0 9) (h1 : gI X' 55 29 = gI X 55 29) (hr : ∀ i, i = 17 ∨ i = 18 ∨ i = 79 ∨ i = 80 → gI X' i = gI X i) (hm : ∀ j, j < S.1 → gI X' (S.2.2.1 j) 9 = gI X (S.2.2.1 j) 9) (h : I_sur N S X) : I_sur N' S X' := by
  unfold I_sur at h ⊢
  rw [h0, h1, hN]
  refine ⟨h.1, ?_, fun j hj => ?_⟩
  · rw [hr 17 (by omega), hr 18 (by omega), hr 79 (by omega), hr 80 (by omega)]
    exact h.2.1
  · rw [hm j hj, hr 79 (by omega)]
    exact h.2.2 j hj
