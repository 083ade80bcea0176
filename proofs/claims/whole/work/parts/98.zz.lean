section LWZ
variable {E : gp_E} {N : Nat → Nat} {S : gp_S} {X Y : gp_H} {T : Nat → Int32} {n i : Nat} {R : Bool × Nat × List Int32}
theorem sg_00 : sg 0 0 = 98 := by decide +kernel
theorem sg_10 : sg 1 0 = 112 := by decide +kernel
theorem nd_00 : nd 0 0 = false := by decide +kernel
theorem nd_10 : nd 1 0 = false := by decide +kernel
theorem ln_0 : ln 0 = 23 + 1 := by decide +kernel
theorem ln_1 : ln 1 = 24 + 1 := by decide +kernel
theorem dc_3 : ∀ i, i < 2 → dc i (ln i) = 3 := by decide +kernel
theorem mR_le (e : mR T n i = R) : R.2.1 ≤ n := by
  subst e
  unfold mR
  exact mt_le i T n (ln i) 0 0 [] (Nat.zero_le _)
theorem mR_0 (e : mR T n 0 = R) (z : ¬ (0 < n ∧ T 0 = 98)) : R = (false, 0, []) := by
  rw [← e]
  unfold mR
  rw [ln_0]
  exact mt_1 nd_00 (by rw [sg_00]; exact z)
theorem mR_1 (e : mR T n 1 = R) (z : ¬ (0 < n ∧ T 0 = 112)) : R = (false, 0, []) := by
  rw [← e]
  unfold mR
  rw [ln_1]
  exact mt_1 nd_10 (by rw [sg_10]; exact z)
theorem mR_3 (e : mR T n i = R) (hi : i < 2) (hr : R.1 = true) : R.2.2.length = 3 := by
  subst e
  unfold mR at hr ⊢
  exact (mt_len i T n (ln i) 0 0 [] rfl rfl hr).trans (dc_3 i hi)
def mQ (n : Nat) (S : gp_S) (X : gp_H) (R : Bool × Nat × List Int32) : Option Value → gp_H → Prop := fun r Y' => r = some (.int (mtR n R)) ∧ Lay S Y' ∧ (∀ a k, a ≠ 47 → gI Y' a k = gI X a k) ∧ ∀ j, j < R.2.2.length → gI Y' 47 j = R.2.2.getD j 0
theorem mR_c (h : Inv N S X) (hi : i < 2) (e : mR (gI X 102) (N 14) i = R) (lY : Lay S Y) (fY : ∀ a k, a ≠ 47 → gI Y a k = gI X a k) : Ev E m_la_match 0 [(0, .ref 40), (1, .float (sF i))] [] Y (0, 0) (mQ (N 14) S X R) := by
  subst e
  unfold mR mQ
  exact b_la_match_0 lY hi (sF_n hi) (mt_c h hi (ln i) 0 0 [] Y rfl (Nat.zero_le _) rfl lY fY (fun j hj => absurd hj (Nat.not_lt_zero _)))
theorem s_lawR (h : Inv N S X) (lY : Lay S Y) (hl : N 12 < 10) (fY : ∀ a k, 55 ≤ a → gI Y a k = gI X a k) (ei : fm (gI X 102) (N 14) = i) (e : mR (gI X 102) (N 14) i = R) {Q : Option Value → gp_H → Prop} (g : ∀ Z, Lay S Z → Fz Y Z → gI Z 55 73 = nI R.2.1 → (∀ j, j < R.2.2.length → gI Z 112 (qs i j) = R.2.2.getD j 0) → ∀ (x2 t : Int32), (t = if R.1 = true ∧ R.2.1 = N 14 then 1 else 0) → Ev E m_mo_law 114 [(0, .ref 55), (1, .int (xf i)), (2, .int x2)] [.int t] Z (0, 0) Q) : Ev E m_mo_law 0 [(0, .ref 55)] [] Y (0, 0) Q := by
  subst e
  subst ei
  exact s_law h lY hl (fun k => fY 102 k (by omega)) (fY 55 64 (by omega)) (fY 55 57 (by omega)) ⟨fun i hi => (fY 110 i (by omega)).trans (h.txt.1 i hi), fun i hi => (fY 111 i (by omega)).trans (h.txt.2 i hi)⟩ g
def lQ (E : gp_E) (S : gp_S) : Option Value → gp_H → Prop := fun r Y => ∃ v : Int32, r = some (.int v) ∧ Lay S Y ∧ gp_two E m_mo_law [(0, .ref 55)] (some (.int v)) Y
theorem lwC_f {m : Nat} {x1 v0 v1 v2 v3 : Int32} {a k : Nat} (ha : 55 ≤ a) : gI (lwC Y m x1 v0 v1 v2 v3) a k = gI Y a k := by
  have rc : gI (lwC Y m x1 v0 v1 v2 v3) a k = if a = 40 ∧ k = 2 then nI (m + 1) else if a = 40 ∧ k = 0 then 0 else if a = 46 ∧ k = m then v3 else if a = 45 ∧ k = m then v2 else if a = 44 ∧ k = m then v1 else if a = 43 ∧ k = m then v0 else if a = 42 ∧ k = m then x1 else gI Y a k := rfl
  rw [rc, if_neg (by omega), if_neg (by omega), if_neg (by omega), if_neg (by omega), if_neg (by omega), if_neg (by omega), if_neg (by omega)]
theorem lwC_l {m : Nat} {x1 v0 v1 v2 v3 : Int32} (lY : Lay S Y) : Lay S (lwC Y m x1 v0 v1 v2 v3) := ly_sI (ly_sI (ly_sI (ly_sI (ly_sI (ly_sI (ly_sI lY))))))
theorem law_bad (h : Inv N S X) (hl : N 12 < 10) {Y2 : gp_H} (l2 : Lay S Y2) (f2 : ∀ a k, a ≠ 47 → gI Y2 a k = gI X a k) (ei : fm (gI X 102) (N 14) = i) (e : mR (gI X 102) (N 14) i = R) (nt : ¬ (R.1 = true ∧ R.2.1 = N 14)) {v : Int32} (ev : v = -10 - nI R.2.1) : gp_two E m_mo_law [(0, .ref 55)] (some (.int v)) (gp_sI Y2 40 0 0) := by
  refine ⟨v, S, rfl, ly_sI l2, s_lawR h (ly_sI l2) hl (fun a k ha => (if_neg (by omega)).trans (f2 a k (by omega))) ei e (fun Z lZ fZ u1 u2 x2 t et => ?_)⟩
  rw [if_neg nt] at et
  subst et
  refine b_mo_law_114 lZ ⟨fun z => absurd rfl z, fun _ => ⟨?_, law_no (Yf := gp_sI Y2 40 0 0) h lZ rfl (fun a k w1 w2 => (if_neg w2).trans (f2 a k w1)) fZ⟩⟩
  rw [u1, ev]
theorem law_end (h : Inv N S X) (hl : N 12 < 10) {Y1 : gp_H} (l1 : Lay S Y1) (f1 : ∀ a k, a ≠ 47 → gI Y1 a k = gI X a k) (ei : fm (gI X 102) (N 14) = i) (e : mR (gI X 102) (N 14) i = R) (ok : R.1 = true ∧ R.2.1 = N 14) {c42 c0 c1 c2 c3 : Int32} (hb : narrow .boolean (.int c42) = .int c42) (hx : narrow .boolean (.int (xf i)) = .int (xf i)) (hz : ∀ Z, (∀ j, j < R.2.2.length → gI Z 112 (qs i j) = R.2.2.getD j 0) → gI Z 112 0 = c0 ∧ gI Z 112 1 = c1 ∧ ((c42 = 0 ∧ xf i = 1 ∧ c2 = gI Z 112 2) ∨ (c42 = 1 ∧ xf i = 0 ∧ c3 = gI Z 112 3))) : Ev E m_la_addLaw 0 [(0, .ref 40), (1, .int c42), (2, .int c0), (3, .int c1), (4, .int c2), (5, .int c3)] [] Y1 (0, 0) (lQ E S) := by
  obtain ⟨⟨j1, j2, j3⟩, -, -⟩ := h.law
  have n2 : gI Y1 40 2 = nI (N 12) := (f1 40 2 (by decide)).trans j1
  refine b_la_addLaw_0 l1 ?_
  rw [n2, nI_c (k := N 12) (by omega), nI_s]
  have k : lQ E S (some (.int (nI (N 12)))) (lwC Y1 (N 12) c42 c0 c1 c2 c3) := by
    refine ⟨_, rfl, lwC_l l1, _, S, rfl, lwC_l l1, s_lawR h (lwC_l l1) hl (fun a k ha => (lwC_f ha).trans (f1 a k (by omega))) ei e (fun Z lZ fZ u1 u2 x2 t et => ?_)⟩
    rw [if_pos ok] at et
    subst et
    obtain ⟨d0, d1, d2⟩ := hz Z u2
    have n57 : gI Z 55 57 = nI (N 12) := (fZ 55 57 (by decide) (by decide) (by decide)).trans ((lwC_f (by omega)).trans ((f1 55 57 (by decide)).trans j2))
    refine b_mo_law_114 lZ ⟨fun _ => ?_, fun z => absurd z (by decide)⟩
    rw [n57, nI_c (k := N 12) (by omega), nI_add_sub, nI_s]
    refine ⟨vin hl (by omega), hx, vin (k := 0) (by omega) (by omega), vin (k := 1) (by omega) (by omega), vin (k := 2) (by omega) (by omega), vin (k := 3) (by omega) (by omega), rfl, ?_⟩
    have := law_ok h hl lZ f1 fZ d2
    rw [← d0, ← d1] at this
    exact this
  exact ⟨vin hl (by omega), hb, k⟩
end LWZ
