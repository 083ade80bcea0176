section LAZ
variable {E : gp_E} {N : Nat → Nat} {S : gp_S} {X Y : gp_H}
theorem mt_le (i : Nat) (T : Nat → Int32) (n : Nat) : ∀ (d f q : Nat) (ns : List Int32), q ≤ n → (mt i T n d f q ns).2.1 ≤ n
  | 0, _, _, _, h => h
  | d + 1, f, q, ns, h => by
    unfold mt
    split
    · split
      · exact h
      · exact mt_le i T n d _ _ _ (dE_le T n (mo i f) q h).2
    · split
      · rename_i z
        exact mt_le i T n d _ _ _ (by omega)
      · exact h
theorem mt_len (i : Nat) (T : Nat → Int32) (n : Nat) : ∀ (d f q : Nat) (ns : List Int32), d + f = ln i → ns.length = dc i f → (mt i T n d f q ns).1 = true → (mt i T n d f q ns).2.2.length = dc i (ln i)
  | 0, f, _, _, e, h, _ => by
    obtain rfl : f = ln i := by omega
    exact h
  | d + 1, f, q, ns, e, h, hr => by
    have s1 : dc i (f + 1) = dc i f + (if nd i f = true then 1 else 0) := rfl
    unfold mt at hr ⊢
    by_cases z : nd i f = true
    · rw [if_pos z] at hr ⊢
      by_cases w : dE T n (mo i f) q = q
      · rw [if_pos w] at hr; exact absurd hr Bool.false_ne_true
      · rw [if_neg w] at hr ⊢
        exact mt_len i T n d _ _ _ (by omega) (by rw [s1, if_pos z]; simp; omega) hr
    · rw [if_neg z] at hr ⊢
      by_cases w : q < n ∧ T q = sg i f
      · rw [if_pos w] at hr ⊢
        exact mt_len i T n d _ _ _ (by omega) (by rw [s1, if_neg z]; omega) hr
      · rw [if_neg w] at hr; exact absurd hr Bool.false_ne_true
theorem mt_1 {i : Nat} {T : Nat → Int32} {n d : Nat} (h0 : nd i 0 = false) (h : ¬ (0 < n ∧ T 0 = sg i 0)) : mt i T n (d + 1) 0 0 [] = (false, 0, []) := by
  show (if nd i 0 = true then _ else if 0 < n ∧ T 0 = sg i 0 then _ else _) = _
  rw [if_neg (by rw [h0]; decide), if_neg h]
theorem mtR_m {n : Nat} {R : Bool × Nat × List Int32} (hn : n ≤ 60) (h : R.2.1 ≤ n) : (mtR n R = -1 ↔ R.1 = true ∧ R.2.1 = n) ∧ (¬ mtR n R = -1 → mtR n R = nI R.2.1) := by
  have no : ¬ nI R.2.1 = -1 := fun y => by
    have : ∀ k, k < 61 → ¬ nI k = -1 := by decide
    exact this _ (by omega) y
  unfold mtR
  by_cases z : R.1 = true
  · rw [if_pos z]
    by_cases w : R.2.1 < n
    · rw [if_pos w]; exact ⟨⟨fun y => absurd y no, fun y => absurd y.2 (by omega)⟩, fun _ => rfl⟩
    · rw [if_neg w]; exact ⟨⟨fun _ => ⟨z, by omega⟩, fun _ => rfl⟩, fun y => absurd rfl y⟩
  · rw [if_neg z]; exact ⟨⟨fun y => absurd y no, fun y => absurd y.1 z⟩, fun _ => rfl⟩
/-- which form is read -/
def fm (T : Nat → Int32) (n : Nat) : Nat := if 0 < n ∧ T 0 = 112 then 1 else 0
theorem fm_2 (T : Nat → Int32) (n : Nat) : fm T n < 2 := by unfold fm; split <;> omega
def mR (T : Nat → Int32) (n i : Nat) : Bool × Nat × List Int32 := mt i T n (ln i) 0 0 []
theorem s_law (h : Inv N S X) (lY : Lay S Y) (hl : N 12 < 10) (yT : ∀ k, gI Y 102 k = gI X 102 k) (y64 : gI Y 55 64 = gI X 55 64) (y57 : gI Y 55 57 = gI X 55 57) (yx : I_txt Y) {Q : Option Value → gp_H → Prop} (g : ∀ Z, Lay S Z → Fz Y Z → gI Z 55 73 = nI (mR (gI X 102) (N 14) (fm (gI X 102) (N 14))).2.1 → (∀ j, j < (mR (gI X 102) (N 14) (fm (gI X 102) (N 14))).2.2.length → gI Z 112 (qs (fm (gI X 102) (N 14)) j) = (mR (gI X 102) (N 14) (fm (gI X 102) (N 14))).2.2.getD j 0) → ∀ (x2 t : Int32), (t = if (mR (gI X 102) (N 14) (fm (gI X 102) (N 14))).1 = true ∧ (mR (gI X 102) (N 14) (fm (gI X 102) (N 14))).2.1 = N 14 then 1 else 0) → Ev E m_mo_law 114 [(0, .ref 55), (1, .int (xf (fm (gI X 102) (N 14)))), (2, .int x2)] [.int t] Z (0, 0) Q) : Ev E m_mo_law 0 [(0, .ref 55)] [] Y (0, 0) Q := by
  obtain ⟨⟨k1, k2, k3⟩, q1⟩ := h.tap
  have e64 : gI Y 55 64 = nI (N 14) := y64.trans k2
  have ml : (mR (gI X 102) (N 14) (fm (gI X 102) (N 14))).2.1 ≤ N 14 := mt_le (fm (gI X 102) (N 14)) (gI X 102) (N 14) (ln (fm (gI X 102) (N 14))) 0 0 [] (Nat.zero_le _)
  have nx : Ev E m_mo_law 40 [(0, .ref 55), (1, .int (xf (fm (gI X 102) (N 14)))), (2, .int 0)] [] (gp_sI (gp_sI Y 55 73 0) 55 74 0) (0, 0) Q := by
    refine mt_r (X := X) (Y := Y) h (fm_2 _ _) yT e64 yx (R := mR (gI X 102) (N 14) (fm (gI X 102) (N 14))) (fun Z x2 lZ fZ e1 e2 e3 => ?_) (ln (fm (gI X 102) (N 14))) 0 0 [] _ rfl (Nat.zero_le _) rfl (by decide) rfl (ly_sI (ly_sI lY)) (fun a k z1 z2 z3 => (if_neg z3).trans (if_neg z2)) rfl rfl (fun j hj => absurd hj (Nat.not_lt_zero _))
    have z64 : gI Z 55 64 = nI (N 14) := (fZ 55 64 (by decide) (by decide) (by decide)).trans e64
    refine b_mo_law_91 lZ ?_
    rw [e1, z64, e2, nI_eq (b := N 14) (Nat.lt_of_le_of_lt ml (by omega)) (by omega)]
    by_cases w : (mR (gI X 102) (N 14) (fm (gI X 102) (N 14))).1 = true
    · rw [if_pos w]
      refine ⟨fun z => absurd rfl z, fun _ => ⟨fun z => b_mo_law_113 lZ (g Z lZ fZ e1 e3 x2 0 (by rw [if_neg (fun y => z y.2)])), fun z => g Z lZ fZ e1 e3 x2 1 (by rw [if_pos ⟨w, z⟩])⟩⟩
    · rw [if_neg w]
      refine ⟨fun _ => b_mo_law_113 lZ (g Z lZ fZ e1 e3 x2 0 (by rw [if_neg (fun y => w y.1)])), fun z => absurd z (by decide)⟩
  refine b_mo_law_0 lY ⟨fun _ => wh_i (s_byteAt (Z := gp_sI (gp_sI Y 55 73 0) 55 74 0) (T := gI X 102) (n := N 14) (q := 0) (ly_sI (ly_sI lY)) k3 e64 yT (by omega)) (ly_sI (ly_sI lY)) ⟨fun z => ?_, fun z => ?_⟩, fun z => ?_⟩
  · have w : 0 < N 14 ∧ gI X 102 0 = 112 := by
      by_cases w : 0 < N 14
      · rw [if_pos w] at z; exact ⟨w, z⟩
      · rw [if_neg w] at z; exact absurd z (by decide)
    have e : fm (gI X 102) (N 14) = 1 := if_pos w
    rw [e] at nx
    exact nx
  · have w : ¬ (0 < N 14 ∧ gI X 102 0 = 112) := fun w => z (by rw [if_pos w.1]; exact w.2)
    have e : fm (gI X 102) (N 14) = 0 := if_neg w
    rw [e] at nx
    exact nx
  · rw [y57, h.law.1.2.1] at z
    exact absurd ((nI_eq_lit (k := 10) rfl (by omega) (by omega)).mp z) (by omega)
theorem law_no (h : Inv N S X) {Yf Z : gp_H} (lZ : Lay S Z) (f0 : gI Yf 40 0 = 0) (fY : ∀ a k, a ≠ 47 → ¬ (a = 40 ∧ k = 0) → gI Yf a k = gI X a k) (fZ : Fz Yf Z) : ∃ N, Inv N S (gp_sI Z 55 64 0) := by
  have lo : ∀ a k, a ≠ 47 → a ≠ 112 → ¬ (a = 40 ∧ k = 0) → ¬ (a = 55 ∧ k = 64) → ¬ (a = 55 ∧ k = 73) → ¬ (a = 55 ∧ k = 74) → gI (gp_sI Z 55 64 0) a k = gI X a k := fun a k z1 z2 z3 z4 z5 z6 => (if_neg z4).trans ((fZ a k z2 z5 z6).trans (fY a k z1 z3))
  refine iv_y [(47, 0), (112, 0), (40, 0), (55, 64), (55, 73), (55, 74)] false (fun i => if i = 14 then 0 else N i) h (ly_sI lZ) (fun a k ho _ => lo a k (off_ne ho (47, 0)) (off_ne ho (112, 0)) (off_sl ho (40, 0)) (off_sl ho (55, 64)) (off_sl ho (55, 73)) (off_sl ho (55, 74))) (fun hx => ⟨hx.1, (hx.2.1 rfl), (hx.2.2.1 rfl), (hx.2.2.2.1 rfl), (hx.2.2.2.2.1 rfl), (hx.2.2.2.2.2.1 rfl), (hx.2.2.2.2.2.2.1 rfl), (hx.2.2.2.2.2.2.2.1 rfl), (hx.2.2.2.2.2.2.2.2.1 rfl), (hx.2.2.2.2.2.2.2.2.2.1 rfl), (hx.2.2.2.2.2.2.2.2.2.2.1 rfl), (hx.2.2.2.2.2.2.2.2.2.2.2.1 rfl), (hx.2.2.2.2.2.2.2.2.2.2.2.2.1 rfl), (hx.2.2.2.2.2.2.2.2.2.2.2.2.2.1 rfl), (hx.2.2.2.2.2.2.2.2.2.2.2.2.2.2.1 rfl), (hx.2.2.2.2.2.2.2.2.2.2.2.2.2.2.2.1 rfl), (hx.2.2.2.2.2.2.2.2.2.2.2.2.2.2.2.2.1 rfl), (hx.2.2.2.2.2.2.2.2.2.2.2.2.2.2.2.2.2.1 rfl), ?_, (hx.2.2.2.2.2.2.2.2.2.2.2.2.2.2.2.2.2.2.2.1 rfl), (hx.2.2.2.2.2.2.2.2.2.2.2.2.2.2.2.2.2.2.2.2.1 rfl), (hx.2.2.2.2.2.2.2.2.2.2.2.2.2.2.2.2.2.2.2.2.2 rfl)⟩)
  obtain ⟨-, q1⟩ := h.tap
  refine ⟨⟨?_, rfl, Nat.zero_le _⟩, fun i => ?_⟩
  · show gI Z 40 0 = nI 0
    exact (fZ 40 0 (by decide) (by decide) (by decide)).trans f0
  · rw [lo 41 i (by decide) (by decide) (by omega) (by omega) (by omega) (by omega), lo 102 i (by decide) (by decide) (by omega) (by omega) (by omega) (by omega)]
    exact q1 i
def lwR (Z : gp_H) (n : Nat) (x1 v0 v1 v2 v3 : Int32) : gp_H := gp_sI (gp_sI (gp_sI (gp_sI (gp_sI (gp_sI (gp_sI Z 55 64 0) 101 n x1) 97 n v0) 98 n v1) 99 n v2) 100 n v3) 55 57 (nI (n + 1))
def lwC (Y : gp_H) (n : Nat) (x1 v0 v1 v2 v3 : Int32) : gp_H := gp_sI (gp_sI (gp_sI (gp_sI (gp_sI (gp_sI (gp_sI Y 42 n x1) 43 n v0) 44 n v1) 45 n v2) 46 n v3) 40 0 0) 40 2 (nI (n + 1))
theorem law_ok (h : Inv N S X) (hl : N 12 < 10) {Y1 Z : gp_H} {c42 c0 c1 c2 c3 r101 r2 r3 : Int32} (lZ : Lay S Z) (fY : ∀ a k, a ≠ 47 → gI Y1 a k = gI X a k) (fZ : Fz (lwC Y1 (N 12) c42 c0 c1 c2 c3) Z) (hc : (c42 = 0 ∧ r101 = 1 ∧ c2 = r2) ∨ (c42 = 1 ∧ r101 = 0 ∧ c3 = r3)) : ∃ M, Inv M S (lwR Z (N 12) r101 c0 c1 r2 r3) := by
  have rd : ∀ a k, gI (lwR Z (N 12) r101 c0 c1 r2 r3) a k = if a = 55 ∧ k = 57 then nI (N 12 + 1) else if a = 100 ∧ k = N 12 then r3 else if a = 99 ∧ k = N 12 then r2 else if a = 98 ∧ k = N 12 then c1 else if a = 97 ∧ k = N 12 then c0 else if a = 101 ∧ k = N 12 then r101 else if a = 55 ∧ k = 64 then 0 else gI Z a k := fun _ _ => rfl
  have rc : ∀ a k, gI (lwC Y1 (N 12) c42 c0 c1 c2 c3) a k = if a = 40 ∧ k = 2 then nI (N 12 + 1) else if a = 40 ∧ k = 0 then 0 else if a = 46 ∧ k = N 12 then c3 else if a = 45 ∧ k = N 12 then c2 else if a = 44 ∧ k = N 12 then c1 else if a = 43 ∧ k = N 12 then c0 else if a = 42 ∧ k = N 12 then c42 else gI Y1 a k := fun _ _ => rfl
  have lW : Lay S (lwR Z (N 12) r101 c0 c1 r2 r3) := ly_sI (ly_sI (ly_sI (ly_sI (ly_sI (ly_sI (ly_sI lZ))))))
  generalize lwR Z (N 12) r101 c0 c1 r2 r3 = W_ at rd lW ⊢
  generalize lwC Y1 (N 12) c42 c0 c1 c2 c3 = V_ at rc fZ
  have up : ∀ a k, ¬ (55 ≤ a ∧ a ≤ 101) → a ≠ 112 → gI W_ a k = gI V_ a k := fun a k z z2 => by
    rw [rd, if_neg (by omega), if_neg (by omega), if_neg (by omega), if_neg (by omega), if_neg (by omega), if_neg (by omega), if_neg (by omega), fZ a k z2 (by omega) (by omega)]
  have lc : ∀ a k, a ≠ 47 → ¬ (a = 40 ∧ k = 0) → ¬ (a = 40 ∧ k = 2) → ¬ ((42 ≤ a ∧ a ≤ 46) ∧ k = N 12) → gI V_ a k = gI X a k := fun a k z1 z2 z3 z4 => by
    rw [rc, if_neg z3, if_neg z2, if_neg (by omega), if_neg (by omega), if_neg (by omega), if_neg (by omega), if_neg (by omega), fY a k z1]
  have lo : ∀ a k, a ≠ 47 → a ≠ 112 → ¬ (a = 40 ∧ k = 0) → ¬ (a = 40 ∧ k = 2) → ¬ (a = 55 ∧ k = 57) → ¬ (a = 55 ∧ k = 64) → ¬ (a = 55 ∧ k = 73) → ¬ (a = 55 ∧ k = 74) → ¬ ((42 ≤ a ∧ a ≤ 46) ∧ k = N 12) → ¬ ((97 ≤ a ∧ a ≤ 101) ∧ k = N 12) → gI W_ a k = gI X a k := fun a k z1 z2 z3 z4 z5 z6 z7 z8 z9 z10 => by
    rw [rd, if_neg z5, if_neg (by omega), if_neg (by omega), if_neg (by omega), if_neg (by omega), if_neg (by omega), if_neg z6, fZ a k z2 z7 z8, lc a k z1 z3 z4 z9]
  refine iv_y [(47, 0), (112, 0), (40, 0), (40, 2), (55, 57), (55, 64), (55, 73), (55, 74), (42, 0), (43, 0), (44, 0), (45, 0), (46, 0), (97, 0), (98, 0), (99, 0), (100, 0), (101, 0)] false (fun i => if i = 14 then 0 else if i = 12 then N 12 + 1 else N i) h lW (fun a k ho _ => ?_) (fun hx => ⟨hx.1, (hx.2.1 rfl), (hx.2.2.1 rfl), (hx.2.2.2.1 rfl), (hx.2.2.2.2.1 rfl), (hx.2.2.2.2.2.1 rfl), (hx.2.2.2.2.2.2.1 rfl), (hx.2.2.2.2.2.2.2.1 rfl), (hx.2.2.2.2.2.2.2.2.1 rfl), (hx.2.2.2.2.2.2.2.2.2.1 rfl), (hx.2.2.2.2.2.2.2.2.2.2.1 rfl), (hx.2.2.2.2.2.2.2.2.2.2.2.1 rfl), (hx.2.2.2.2.2.2.2.2.2.2.2.2.1 rfl), (hx.2.2.2.2.2.2.2.2.2.2.2.2.2.1 rfl), (hx.2.2.2.2.2.2.2.2.2.2.2.2.2.2.1 rfl), (hx.2.2.2.2.2.2.2.2.2.2.2.2.2.2.2.1 rfl), (hx.2.2.2.2.2.2.2.2.2.2.2.2.2.2.2.2.1 rfl), ?_, ?_, (hx.2.2.2.2.2.2.2.2.2.2.2.2.2.2.2.2.2.2.2.1 rfl), (hx.2.2.2.2.2.2.2.2.2.2.2.2.2.2.2.2.2.2.2.2.1 rfl), (hx.2.2.2.2.2.2.2.2.2.2.2.2.2.2.2.2.2.2.2.2.2 rfl)⟩)
  · have e1 : a ≠ 42 := off_ne ho (42, 0)
    have e2 : a ≠ 43 := off_ne ho (43, 0)
    have e3 : a ≠ 44 := off_ne ho (44, 0)
    have e4 : a ≠ 45 := off_ne ho (45, 0)
    have e5 : a ≠ 46 := off_ne ho (46, 0)
    have e6 : a ≠ 97 := off_ne ho (97, 0)
    have e7 : a ≠ 98 := off_ne ho (98, 0)
    have e8 : a ≠ 99 := off_ne ho (99, 0)
    have e9 : a ≠ 100 := off_ne ho (100, 0)
    have e10 : a ≠ 101 := off_ne ho (101, 0)
    exact lo a k (off_ne ho (47, 0)) (off_ne ho (112, 0)) (off_sl ho (40, 0)) (off_sl ho (40, 2)) (off_sl ho (55, 57)) (off_sl ho (55, 64)) (off_sl ho (55, 73)) (off_sl ho (55, 74)) (by omega) (by omega)
  · obtain ⟨-, q2, q3⟩ := h.law
    refine ⟨⟨?_, ?_, show N 12 + 1 ≤ 10 by omega⟩, fun i hi => ?_, fun i => ?_⟩
    · rw [up 40 2 (by omega) (by decide), rc, if_pos ⟨rfl, rfl⟩]; rfl
    · rw [rd, if_pos ⟨rfl, rfl⟩]; rfl
    · have hi' : i < N 12 + 1 := hi
      by_cases z : i = N 12
      · have a42 : gI W_ 42 i = c42 := by rw [up 42 i (by omega) (by decide), rc, if_neg (by omega), if_neg (by omega), if_neg (by omega), if_neg (by omega), if_neg (by omega), if_neg (by omega), if_pos ⟨rfl, z⟩]
        have a43 : gI W_ 43 i = c0 := by rw [up 43 i (by omega) (by decide), rc, if_neg (by omega), if_neg (by omega), if_neg (by omega), if_neg (by omega), if_neg (by omega), if_pos ⟨rfl, z⟩]
        have a44 : gI W_ 44 i = c1 := by rw [up 44 i (by omega) (by decide), rc, if_neg (by omega), if_neg (by omega), if_neg (by omega), if_neg (by omega), if_pos ⟨rfl, z⟩]
        have a45 : gI W_ 45 i = c2 := by rw [up 45 i (by omega) (by decide), rc, if_neg (by omega), if_neg (by omega), if_neg (by omega), if_pos ⟨rfl, z⟩]
        have a46 : gI W_ 46 i = c3 := by rw [up 46 i (by omega) (by decide), rc, if_neg (by omega), if_neg (by omega), if_pos ⟨rfl, z⟩]
        have a97 : gI W_ 97 i = c0 := by rw [rd, if_neg (by omega), if_neg (by omega), if_neg (by omega), if_neg (by omega), if_pos ⟨rfl, z⟩]
        have a98 : gI W_ 98 i = c1 := by rw [rd, if_neg (by omega), if_neg (by omega), if_neg (by omega), if_pos ⟨rfl, z⟩]
        have a99 : gI W_ 99 i = r2 := by rw [rd, if_neg (by omega), if_neg (by omega), if_pos ⟨rfl, z⟩]
        have a100 : gI W_ 100 i = r3 := by rw [rd, if_neg (by omega), if_pos ⟨rfl, z⟩]
        have a101 : gI W_ 101 i = r101 := by rw [rd, if_neg (by omega), if_neg (by omega), if_neg (by omega), if_neg (by omega), if_neg (by omega), if_pos ⟨rfl, z⟩]
        rw [a42, a43, a44, a45, a46, a97, a98, a99, a100, a101]
        exact ⟨rfl, rfl, hc⟩
      · have L : ∀ a, (42 ≤ a ∧ a ≤ 46) ∨ (97 ≤ a ∧ a ≤ 101) → gI W_ a i = gI X a i := fun a ha => lo a i (by omega) (by omega) (by omega) (by omega) (by omega) (by omega) (by omega) (by omega) (by omega) (by omega)
        rw [L 42 (by omega), L 43 (by omega), L 44 (by omega), L 45 (by omega), L 46 (by omega), L 97 (by omega), L 98 (by omega), L 99 (by omega), L 100 (by omega), L 101 (by omega)]
        exact q2 i (by omega)
    · by_cases z : i = N 12
      · have a42 : gI W_ 42 i = c42 := by rw [up 42 i (by omega) (by decide), rc, if_neg (by omega), if_neg (by omega), if_neg (by omega), if_neg (by omega), if_neg (by omega), if_neg (by omega), if_pos ⟨rfl, z⟩]
        have a101 : gI W_ 101 i = r101 := by rw [rd, if_neg (by omega), if_neg (by omega), if_neg (by omega), if_neg (by omega), if_neg (by omega), if_pos ⟨rfl, z⟩]
        rw [a42, a101]
        rcases hc with ⟨y1, y2, -⟩ | ⟨y1, y2, -⟩
        · exact ⟨Or.inl y1, Or.inr y2⟩
        · exact ⟨Or.inr y1, Or.inl y2⟩
      · rw [lo 42 i (by omega) (by omega) (by omega) (by omega) (by omega) (by omega) (by omega) (by omega) (by omega) (by omega), lo 101 i (by omega) (by omega) (by omega) (by omega) (by omega) (by omega) (by omega) (by omega) (by omega) (by omega)]
        exact q3 i
  · obtain ⟨-, q1⟩ := h.tap
    refine ⟨⟨?_, ?_, Nat.zero_le _⟩, fun i => ?_⟩
    · rw [up 40 0 (by omega) (by decide), rc, if_neg (by omega), if_pos ⟨rfl, rfl⟩]; rfl
    · rw [rd, if_neg (by omega), if_neg (by omega), if_neg (by omega), if_neg (by omega), if_neg (by omega), if_neg (by omega), if_pos ⟨rfl, rfl⟩]; rfl
    · rw [lo 41 i (by omega) (by omega) (by omega) (by omega) (by omega) (by omega) (by omega) (by omega) (by omega) (by omega), lo 102 i (by omega) (by omega) (by omega) (by omega) (by omega) (by omega) (by omega) (by omega) (by omega) (by omega)]
      exact q1 i
end LAZ
