section WK
variable {E : gp_E} {N : Nat → Nat} {S : gp_S} {X Y : gp_H}
def TB (X : gp_H) (w : Nat) (t : Int32) : gp_H := if gI X 62 w < t then gp_sI (gp_sI (gp_sI (gp_sI X 10 w 0) 11 w 0) 63 w 0) 62 w 0 else gp_sI (gp_sI (gp_sI X 10 w (gI X 62 w - t)) 63 w 1) 62 w (gI X 62 w - t)
theorem I_wrk_b {X' : gp_H} {w cc : Nat} {c b : Int32} (h : I_wrk N X) (s1 : gI X' 1 9 = gI X 1 9) (s2 : gI X' 55 6 = gI X 55 6) (r : ∀ a, a = 8 ∨ a = 9 ∨ a = 60 ∨ a = 61 → ∀ i, gI X' a i = gI X a i) (ec : c = nI cc) (hc : cc ≤ 9999) (hb : is01 b) (r10 : ∀ i, gI X' 10 i = if i = w then c else gI X 10 i) (r62 : ∀ i, gI X' 62 i = if i = w then c else gI X 62 i) (r11 : ∀ i, gI X' 11 i = if i = w then b else gI X 11 i) (r63 : ∀ i, gI X' 63 i = if i = w then b else gI X 63 i) : I_wrk N X' := by
  obtain ⟨w0, q1, q2, q3⟩ := h
  unfold I_wrk
  rw [s1, s2]
  refine ⟨w0, fun i => ⟨by rw [r 8 (by omega), r 60 (by omega)]; exact (q1 i).1, by rw [r 9 (by omega), r 61 (by omega)]; exact (q1 i).2.1, two_rows (fun i => (q1 i).2.2.1) r10 r62 i, two_rows (fun i => (q1 i).2.2.2) r11 r63 i⟩, fun i hi => ?_, fun i => ?_⟩
  · obtain ⟨a, m, c', p1, p2, p3, p4, p5, p6, p7⟩ := q2 i hi
    rw [r 60 (by omega), r 61 (by omega)]
    by_cases z : i = w
    · subst z; exact ⟨a, m, cc, p1, p2, p3, p4, p5, hc, (row_at r62).trans ec⟩
    · rw [row_ne r62 z]; exact ⟨a, m, c', p1, p2, p3, p4, p5, p6, p7⟩
  · by_cases z : i = w
    · subst z; rw [row_at r63]; exact hb
    · rw [row_ne r63 z]; exact q3 i
theorem tb_inv (h : Inv N S X) {w k : Nat} (hw : w < N 2) (hr : ¬ gI X 63 w = 0) {t : Int32} (ek : t = nI k) (hk : k ≤ 100000) : Inv N S (TB X w t) := by
  obtain ⟨a, m, c, p1, p2, p3, p4, p5, p6, p7⟩ := h.wrk.2.2.1 w hw
  have one : gI X 63 w = 1 := (h.wrk.2.2.2 w).resolve_left hr
  have eq1 := (h.wrk.2.1 w).2.2.2
  unfold TB
  split
  · have hx := X_sI (a := 62) (k := w) (v := 0) (X_sI (a := 63) (k := w) (v := 0) (X_sI (a := 11) (k := w) (v := 0) (X_sI (a := 10) (k := w) (v := 0) (X_0 h))))
    exact ⟨hx.1, (hx.2.1 rfl), I_wrk_b (w := w) (c := 0) (b := 0) (cc := 0) h.wrk rfl rfl (fun a ha i => by rcases ha with e | e | e | e <;> subst e <;> rfl) rfl (by omega) (Or.inl rfl) (fun i => by simp only [gI_sI, Nat.reduceEqDiff, false_and, true_and, and_false, and_true, ite_false, ite_true, ↓reduceIte, reduceCtorEq]) (fun i => by simp only [gI_sI, Nat.reduceEqDiff, false_and, true_and, and_false, and_true, ite_false, ite_true, ↓reduceIte, reduceCtorEq]) (fun i => by simp only [gI_sI, Nat.reduceEqDiff, false_and, true_and, and_false, and_true, ite_false, ite_true, ↓reduceIte, reduceCtorEq]) (fun i => by simp only [gI_sI, Nat.reduceEqDiff, false_and, true_and, and_false, and_true, ite_false, ite_true, ↓reduceIte, reduceCtorEq]), (hx.2.2.2.1 rfl), (hx.2.2.2.2.1 rfl), (hx.2.2.2.2.2.1 rfl), (hx.2.2.2.2.2.2.1 rfl), (hx.2.2.2.2.2.2.2.1 rfl), (hx.2.2.2.2.2.2.2.2.1 rfl), (hx.2.2.2.2.2.2.2.2.2.1 rfl), (hx.2.2.2.2.2.2.2.2.2.2.1 rfl), (hx.2.2.2.2.2.2.2.2.2.2.2.1 rfl), (hx.2.2.2.2.2.2.2.2.2.2.2.2.1 rfl), (hx.2.2.2.2.2.2.2.2.2.2.2.2.2.1 rfl), (hx.2.2.2.2.2.2.2.2.2.2.2.2.2.2.1 rfl), (hx.2.2.2.2.2.2.2.2.2.2.2.2.2.2.2.1 rfl), (hx.2.2.2.2.2.2.2.2.2.2.2.2.2.2.2.2.1 rfl), (hx.2.2.2.2.2.2.2.2.2.2.2.2.2.2.2.2.2.1 rfl), (hx.2.2.2.2.2.2.2.2.2.2.2.2.2.2.2.2.2.2.1 rfl), (hx.2.2.2.2.2.2.2.2.2.2.2.2.2.2.2.2.2.2.2.1 rfl), (hx.2.2.2.2.2.2.2.2.2.2.2.2.2.2.2.2.2.2.2.2.1 rfl), (hx.2.2.2.2.2.2.2.2.2.2.2.2.2.2.2.2.2.2.2.2.2 rfl)⟩
  · rename_i z
    have z' : k ≤ c := by
      rw [p7, ek, nI_ltI (by omega) (by omega)] at z; omega
    have ev : gI X 62 w - t = nI (c - k) := by rw [p7, ek, pk_sub z']
    have hx := X_sI (a := 62) (k := w) (v := gI X 62 w - t) (X_sI (a := 63) (k := w) (v := 1) (X_sI (a := 10) (k := w) (v := gI X 62 w - t) (X_0 h)))
    exact ⟨hx.1, (hx.2.1 rfl), I_wrk_b (w := w) (c := gI X 62 w - t) (b := 1) (cc := c - k) h.wrk rfl rfl (fun a ha i => by rcases ha with e | e | e | e <;> subst e <;> rfl) ev (by omega) (Or.inr rfl) (fun i => by simp only [gI_sI, Nat.reduceEqDiff, false_and, true_and, and_false, and_true, ite_false, ite_true, ↓reduceIte, reduceCtorEq]) (fun i => by simp only [gI_sI, Nat.reduceEqDiff, false_and, true_and, and_false, and_true, ite_false, ite_true, ↓reduceIte, reduceCtorEq]) (fun i => by
      show gI X 11 i = _
      by_cases y : i = w
      · rw [if_pos y, y, eq1, one]
      · rw [if_neg y]) (fun i => by simp only [gI_sI, Nat.reduceEqDiff, false_and, true_and, and_false, and_true, ite_false, ite_true, ↓reduceIte, reduceCtorEq]), (hx.2.2.2.1 rfl), (hx.2.2.2.2.1 rfl), (hx.2.2.2.2.2.1 rfl), (hx.2.2.2.2.2.2.1 rfl), (hx.2.2.2.2.2.2.2.1 rfl), (hx.2.2.2.2.2.2.2.2.1 rfl), (hx.2.2.2.2.2.2.2.2.2.1 rfl), (hx.2.2.2.2.2.2.2.2.2.2.1 rfl), (hx.2.2.2.2.2.2.2.2.2.2.2.1 rfl), (hx.2.2.2.2.2.2.2.2.2.2.2.2.1 rfl), (hx.2.2.2.2.2.2.2.2.2.2.2.2.2.1 rfl), (hx.2.2.2.2.2.2.2.2.2.2.2.2.2.2.1 rfl), (hx.2.2.2.2.2.2.2.2.2.2.2.2.2.2.2.1 rfl), (hx.2.2.2.2.2.2.2.2.2.2.2.2.2.2.2.2.1 rfl), (hx.2.2.2.2.2.2.2.2.2.2.2.2.2.2.2.2.2.1 rfl), (hx.2.2.2.2.2.2.2.2.2.2.2.2.2.2.2.2.2.2.1 rfl), (hx.2.2.2.2.2.2.2.2.2.2.2.2.2.2.2.2.2.2.2.1 rfl), (hx.2.2.2.2.2.2.2.2.2.2.2.2.2.2.2.2.2.2.2.2.1 rfl), (hx.2.2.2.2.2.2.2.2.2.2.2.2.2.2.2.2.2.2.2.2.2 rfl)⟩
theorem tb_ne {w a i : Nat} {t : Int32} (h : a ≠ 10) (h1 : a ≠ 11) (h2 : a ≠ 62) (h3 : a ≠ 63) : gI (TB X w t) a i = gI X a i := by
  unfold TB
  split
  · simp only [gI_sI]; rw [if_neg (fun z => h2 z.1), if_neg (fun z => h3 z.1), if_neg (fun z => h1 z.1), if_neg (fun z => h z.1)]
  · simp only [gI_sI]; rw [if_neg (fun z => h2 z.1), if_neg (fun z => h3 z.1), if_neg (fun z => h z.1)]
theorem tb_run {w i : Nat} {t : Int32} (h : ¬ gI X 63 w = 0) (hr : ¬ gI (TB X w t) 63 i = 0) : ¬ gI X 63 i = 0 := by
  by_cases z : i = w
  · rw [z]; exact h
  · have e : gI (TB X w t) 63 i = gI X 63 i := by
      unfold TB
      split
      · simp only [gI_sI]; rw [if_neg (by omega), if_neg (fun y => z y.2), if_neg (by omega), if_neg (by omega)]
      · simp only [gI_sI]; rw [if_neg (by omega), if_neg (fun y => z y.2), if_neg (by omega)]
    rw [e] at hr; exact hr
def bnT (u n q : Int32) : Int32 := ((u / n + (if u - u / n * n ≤ q then 0 else 1)) + 9) / 10
theorem bnT_nat {a b : Nat} (ha : a ≤ 800) (hb : 0 < b) (hb2 : b ≤ 5) (q : Int32) : ∃ k, k ≤ 100000 ∧ bnT (nI a) (nI b) q = nI k := by
  have e1 : nI a / nI b = nI (a / b) := pk_div (by omega) hb (by omega)
  have le : a / b ≤ a := Nat.div_le_self a b
  have go : ∀ z : Nat, z ≤ 1 → ∃ k, k ≤ 100000 ∧ ((nI a / nI b + nI z) + 9) / 10 = nI k := fun z hz => by
    refine ⟨(a / b + z + 9) / 10, by omega, ?_⟩
    rw [e1, nI_add, show (9 : Int32) = nI 9 from rfl, nI_add, show (10 : Int32) = nI 10 from rfl, pk_div (by omega) (by omega) (by omega)]
  unfold bnT
  split
  · exact go 0 (by omega)
  · exact go 1 (by omega)
def bnL (g u n : Int32) : Nat → Nat → Int32 → gp_H → gp_H
  | 0, _, _, X => X
  | d + 1, w, q, X => if ¬ gI X 63 w = 0 ∧ gb g (gI X 60 w) = true then bnL g u n d (w + 1) (q + 1) (TB X w (bnT u n q)) else bnL g u n d (w + 1) q X
theorem bn_inv {g : Int32} {a b : Nat} (ha : a ≤ 800) (hb : 0 < b) (hb2 : b ≤ 5) : ∀ (d w : Nat) (q : Int32) (X : gp_H), d + w = N 2 → Inv N S X → Inv N S (bnL g (nI a) (nI b) d w q X)
  | 0, _, _, _, _, h => h
  | d + 1, w, q, X, e, h => by
    unfold bnL
    split
    · rename_i c
      obtain ⟨k, hk, ek⟩ := bnT_nat ha hb hb2 q
      exact bn_inv ha hb hb2 d (w + 1) (q + 1) _ (by omega) (tb_inv h (by omega) c.1 ek hk)
    · exact bn_inv ha hb hb2 d (w + 1) q X (by omega) h
theorem bn_ne {g u n : Int32} {a i : Nat} (h : a ≠ 10) (h1 : a ≠ 11) (h2 : a ≠ 62) (h3 : a ≠ 63) : ∀ (d w : Nat) (q : Int32) (X : gp_H), gI (bnL g u n d w q X) a i = gI X a i
  | 0, _, _, _ => rfl
  | d + 1, w, q, X => by
    unfold bnL
    split
    · rw [bn_ne h h1 h2 h3 d, tb_ne h h1 h2 h3]
    · exact bn_ne h h1 h2 h3 d (w + 1) q X
theorem bn_run {g u n : Int32} {i : Nat} : ∀ (d w : Nat) (q : Int32) (X : gp_H), ¬ gI (bnL g u n d w q X) 63 i = 0 → ¬ gI X 63 i = 0
  | 0, _, _, _, h => h
  | d + 1, w, q, X, h => by
    unfold bnL at h
    split at h
    · rename_i c
      exact tb_run c.1 (bn_run d (w + 1) (q + 1) _ h)
    · exact bn_run d (w + 1) q X h
/-- how many share -/
def shF (X : gp_H) (g : Int32) (w : Nat) : Int32 := if ¬ gI X 63 w = 0 ∧ gb g (gI X 60 w) = true then 1 else 0
def shS (N : Nat → Nat) (X : gp_H) (g : Int32) : Int32 := sm (shF X g) (N 2)
theorem sh_nat (h : Inv N S X) {g : Int32} {w : Nat} (hw : w < N 2) (hr : ¬ gI X 63 w = 0) (hg : gb g (gI X 60 w) = true) : ∃ b, 0 < b ∧ b ≤ 5 ∧ shS N X g = nI b := by
  have k3 := h.wrk.1.2.2
  obtain ⟨t, h1, h2, h3⟩ := sm_nat (f := shF X g) (B := 1) (N 2) (fun w hw => by
    unfold shF
    split
    · exact ⟨1, by omega, rfl, by omega⟩
    · exact ⟨0, by omega, rfl, by omega⟩)
  refine ⟨t, Nat.pos_of_ne_zero (fun z => ?_), by omega, h2⟩
  have := h3.mp z w hw
  unfold shF at this
  rw [if_pos ⟨hr, hg⟩] at this
  exact absurd this (by decide)
theorem cf_tb {w : Nat} {t : Int32} (g : Cf X Y) (hz : gI X 10 w = gI X 62 w) : (gI Y 10 w < t → Cf (TB X w t) (gp_sI (gp_sI Y 10 w 0) 11 w 0)) ∧ (¬ gI Y 10 w < t → Cf (TB X w t) (gp_sI Y 10 w (gI Y 10 w - t))) := by
  have e : gI Y 10 w = gI X 62 w := (g 10 w rfl).trans hz
  rw [e]
  unfold TB
  refine ⟨fun c => ?_, fun c => ?_⟩
  · rw [if_pos c]; exact cl_ (cl_ (cb (cb g)))
  · rw [if_neg c]; exact cl_ (cl_ (cb g))
theorem bn_c {g : Int32} {a b : Nat} (ha : a ≤ 800) (hb : 0 < b) (hb2 : b ≤ 5) : ∀ (d w q : Nat) (X Y : gp_H), d + w = N 2 → Inv N S X → Lay S Y → Cf X Y → Ev E m_ne_burnCoal 58 [(0, .ref 1), (1, .int g), (2, .int (nI a)), (3, .int (nI b)), (4, .int (nI q)), (5, .int (nI w))] [] Y (0, 0) (fun r Y' => r = none ∧ Lay S Y' ∧ Rf Y Y' ∧ Cf (bnL g (nI a) (nI b) d w (nI q) X) Y')
  | 0, w, q, X, Y, e, h, lY, c => by
    have k1 := h.wrk.1.1
    have k3 := h.wrk.1.2.2
    obtain rfl : w = N 2 := by omega
    exact b_ne_burnCoal_58 lY ⟨fun _ => ⟨rfl, lY, rf_0 Y, c⟩, fun z => absurd (by rw [c 1 9 rfl, k1]; exact Int32.le_refl _) z⟩
  | d + 1, w, q, X, Y, e, h, lY, c => by
    have k1 := h.wrk.1.1
    have k3 := h.wrk.1.2.2
    have hw : w < N 2 := by omega
    obtain ⟨e1, e2, e3, e4⟩ := h.wrk.2.1 w
    refine b_ne_burnCoal_58 lY ⟨fun z => absurd z (by rw [c 1 9 rfl, k1]; exact nI_nge hw (by omega)), fun _ => ⟨vin (by omega) (by omega), ?_⟩⟩
    rw [nI_c (k := w) (by omega), c 11 _ rfl, c 8 _ rfl, e1, e4]
    have skip : ¬ (¬ gI X 63 w = 0 ∧ gb g (gI X 60 w) = true) → Ev E m_ne_burnCoal 58 [(0, .ref 1), (1, .int g), (2, .int (nI a)), (3, .int (nI b)), (4, .int (nI q)), (5, .int (nI w + 1))] [] Y (0, 0) (fun r Y' => r = none ∧ Lay S Y' ∧ Rf Y Y' ∧ Cf (bnL g (nI a) (nI b) (d + 1) w (nI q) X) Y') := fun z => by
      have : bnL g (nI a) (nI b) (d + 1) w (nI q) X = bnL g (nI a) (nI b) d (w + 1) (nI q) X := if_neg z
      rw [this, nI_s]
      exact bn_c ha hb hb2 d (w + 1) q X Y (by omega) h lY c
    have nb : ¬ nI b = 0 := nI_ne0 hb (by omega)
    have go : ¬ gI X 63 w = 0 → gb g (gI X 60 w) = true → ∀ t0 : Int32, t0 = (if nI a - nI a / nI b * nI b ≤ nI q then 0 else 1) → Ev E m_ne_burnCoal 110 [(0, .ref 1), (1, .int g), (2, .int (nI a)), (3, .int (nI b)), (4, .int (nI q)), (5, .int (nI w))] [.int t0, .int (nI a / nI b)] Y (0, 0) (fun r Y' => r = none ∧ Lay S Y' ∧ Rf Y Y' ∧ Cf (bnL g (nI a) (nI b) (d + 1) w (nI q) X) Y') := fun r1 r2 t0 et => by
      have eb : bnL g (nI a) (nI b) (d + 1) w (nI q) X = bnL g (nI a) (nI b) d (w + 1) (nI q + 1) (TB X w (bnT (nI a) (nI b) (nI q))) := if_pos ⟨r1, r2⟩
      obtain ⟨k, hk, ek⟩ := bnT_nat ha hb hb2 (nI q)
      have et2 : ((nI a / nI b + t0) + 9) / 10 = bnT (nI a) (nI b) (nI q) := by rw [et]; rfl
      obtain ⟨f1, f2⟩ := cf_tb (w := w) (t := bnT (nI a) (nI b) (nI q)) c e3
      refine b_ne_burnCoal_110 lY ?_
      rw [eb, et2, nI_s, nI_s]
      have nx : ∀ Y1 : gp_H, Lay S Y1 → Rf Y Y1 → Cf (TB X w (bnT (nI a) (nI b) (nI q))) Y1 → Ev E m_ne_burnCoal 58 [(0, .ref 1), (1, .int g), (2, .int (nI a)), (3, .int (nI b)), (4, .int (nI (q + 1))), (5, .int (nI (w + 1)))] [] Y1 (0, 0) (fun r Y' => r = none ∧ Lay S Y' ∧ Rf Y Y' ∧ Cf (bnL g (nI a) (nI b) d (w + 1) (nI (q + 1)) (TB X w (bnT (nI a) (nI b) (nI q)))) Y') := fun Y1 l1 r1' c1 => ev_post (fun r Y' ⟨x1, x2, x3, x4⟩ => ⟨x1, x2, r_tr r1' x3, x4⟩) (bn_c ha hb hb2 d (w + 1) (q + 1) _ Y1 (by omega) (tb_inv h hw r1 ek hk) l1 c1)
      refine ⟨fun r Y1 => r = none ∧ Lay S Y1 ∧ Rf Y Y1 ∧ Cf (TB X w (bnT (nI a) (nI b) (nI q))) Y1, b_ne_burnPart_0 lY ⟨vin (by omega) (by omega), ?_⟩, fun r Y1 ⟨x1, x2, x3, x4⟩ => ⟨x1, x2, nx Y1 x2 x3 x4⟩⟩
      rw [nI_c (k := w) (by omega)]
      exact ⟨fun z => ⟨rfl, ly_sI (ly_sI lY), rg_sI (rg_sI (rf_0 Y)), f1 z⟩, fun z => ⟨rfl, ly_sI lY, rg_sI (rf_0 Y), f2 z⟩⟩
    exact ⟨fun z => skip (fun y => y.1 z), fun z => ⟨fun z2 => ⟨nb, nb, fun z3 => go z z2 0 (by rw [if_pos z3]), fun z3 => go z z2 1 (by rw [if_neg z3])⟩, fun z2 => skip (fun y => bnf z2 y.2)⟩⟩
theorem s_ne_burnCoal (h : Inv N S X) (lY : Lay S Y) (c : Cf X Y) {g : Int32} {a w : Nat} (ha : a ≤ 800) (hw : w < N 2) (hr : ¬ gI X 63 w = 0) (hg : gb g (gI X 60 w) = true) : Ev E m_ne_burnCoal 0 [(0, .ref 1), (1, .int g), (2, .int (nI a))] [] Y (0, 0) (fun r Y' => r = none ∧ Lay S Y' ∧ Rf Y Y' ∧ Cf (bnL g (nI a) (shS N X g) (N 2) 0 0 X) Y') := by
  have k1 := h.wrk.1.1
  have k3 := h.wrk.1.2.2
  obtain ⟨b, hb, hb2, eb⟩ := sh_nat h hw hr hg
  refine b_ne_burnCoal_0 lY ?_
  refine dn (P := fun k => Ev E m_ne_burnCoal 5 [(0, .ref 1), (1, .int g), (2, .int (nI a)), (3, .int (sm (shF X g) k)), (4, .int (nI k))] [] Y (0, 0) (fun r Y' => r = none ∧ Lay S Y' ∧ Rf Y Y' ∧ Cf (bnL g (nI a) (shS N X g) (N 2) 0 0 X) Y')) (n := N 2) ?_ ?_
  · refine b_ne_burnCoal_5 lY ⟨fun _ => ?_, fun z => absurd (by rw [c 1 9 rfl, k1]; exact Int32.le_refl _) z⟩
    have eb' : sm (shF X g) (N 2) = nI b := eb
    rw [eb', eb]
    exact ⟨fun _ => bn_c ha hb hb2 (N 2) 0 0 X Y rfl h lY c, fun z => absurd z (nI_ne0 hb (by omega))⟩
  · intro k hk ih
    obtain ⟨e1, e2, e3, e4⟩ := h.wrk.2.1 k
    refine b_ne_burnCoal_5 lY ⟨fun z => absurd z (by rw [c 1 9 rfl, k1]; exact nI_nge hk (by omega)), fun _ => ⟨vin (by omega) (by omega), ?_⟩⟩
    rw [nI_c (k := k) (by omega), c 11 _ rfl, c 8 _ rfl, e1, e4, nI_s]
    refine ⟨fun z => ?_, fun z => ⟨fun z2 => ?_, fun z2 => ?_⟩⟩
    · rw [sm_0 (if_neg (fun y => y.1 z))] at ih; exact ih
    · rw [sm_0 (if_neg (fun y => bnf z2 y.2))] at ih; exact ih
    · rw [sm_1 (if_pos ⟨z, z2⟩)] at ih; exact ih
theorem rf_tb {w : Nat} {t v : Int32} (g : Rf X Y) (hv : v = if gI X 62 w < t then 0 else 1) : Rf (TB X w t) (gp_sI (gp_sI Y 63 w v) 62 w (if gI X 62 w < t then 0 else gI X 62 w - t)) := by
  unfold TB
  by_cases c : gI X 62 w < t
  · rw [if_pos c] at hv
    rw [if_pos c, if_pos c, hv]; exact rb (rb (rl_ (rl_ g)))
  · rw [if_neg c] at hv
    rw [if_neg c, if_neg c, hv]; exact rb (rb (rl_ g))
theorem bn_r {g : Int32} {a b : Nat} (ha : a ≤ 800) (hb : 0 < b) (hb2 : b ≤ 5) : ∀ (d w q : Nat) (X Y : gp_H), d + w = N 2 → Inv N S X → Lay S Y → Rf X Y → Ev E m_mo_burn 103 [(0, .ref 55), (1, .int g), (2, .int (nI b)), (3, .int (nI a)), (4, .int (nI q)), (5, .int (nI w))] [] Y (0, 0) (fun r Y' => r = none ∧ Lay S Y' ∧ Cf Y Y' ∧ Rf (bnL g (nI a) (nI b) d w (nI q) X) Y' ∧ ∀ i, gI Y' 108 i = gI Y 108 i)
  | 0, w, q, X, Y, e, h, lY, c => by
    have k2 := h.wrk.1.2.1
    obtain rfl : w = N 2 := by omega
    exact b_mo_burn_103 lY ⟨fun _ => ⟨rfl, lY, cf_0 Y, c, fun _ => rfl⟩, fun z => absurd (by rw [c 55 6 rfl, k2]; exact Int32.le_refl _) z⟩
  | d + 1, w, q, X, Y, e, h, lY, c => by
    have k2 := h.wrk.1.2.1
    have k3 := h.wrk.1.2.2
    have hw : w < N 2 := by omega
    have vi : vp_in (nI w) 5 := vin (by omega) (by omega)
    have cl : Int32.toNatClampNeg (nI w) = w := nI_c (by omega)
    refine b_mo_burn_103 lY ⟨fun z => absurd z (by rw [c 55 6 rfl, k2]; exact nI_nge hw (by omega)), fun _ => ⟨vi, ?_⟩⟩
    rw [cl, c 63 _ rfl, c 60 _ rfl]
    have skip : ¬ (¬ gI X 63 w = 0 ∧ gb g (gI X 60 w) = true) → Ev E m_mo_burn 103 [(0, .ref 55), (1, .int g), (2, .int (nI b)), (3, .int (nI a)), (4, .int (nI q)), (5, .int (nI w + 1))] [] Y (0, 0) (fun r Y' => r = none ∧ Lay S Y' ∧ Cf Y Y' ∧ Rf (bnL g (nI a) (nI b) (d + 1) w (nI q) X) Y' ∧ ∀ i, gI Y' 108 i = gI Y 108 i) := fun z => by
      have : bnL g (nI a) (nI b) (d + 1) w (nI q) X = bnL g (nI a) (nI b) d (w + 1) (nI q) X := if_neg z
      rw [this, nI_s]
      exact bn_r ha hb hb2 d (w + 1) q X Y (by omega) h lY c
    have nb : ¬ nI b = 0 := nI_ne0 hb (by omega)
    have go : ¬ gI X 63 w = 0 → gb g (gI X 60 w) = true → ∀ t0 : Int32, t0 = (if nI a - nI a / nI b * nI b ≤ nI q then 0 else 1) → Ev E m_mo_burn 152 [(0, .ref 55), (1, .int g), (2, .int (nI b)), (3, .int (nI a)), (4, .int (nI q)), (5, .int (nI w))] [.int t0, .int (nI a / nI b)] Y (0, 0) (fun r Y' => r = none ∧ Lay S Y' ∧ Cf Y Y' ∧ Rf (bnL g (nI a) (nI b) (d + 1) w (nI q) X) Y' ∧ ∀ i, gI Y' 108 i = gI Y 108 i) := fun r1 r2 t0 et => by
      have eb : bnL g (nI a) (nI b) (d + 1) w (nI q) X = bnL g (nI a) (nI b) d (w + 1) (nI q + 1) (TB X w (bnT (nI a) (nI b) (nI q))) := if_pos ⟨r1, r2⟩
      obtain ⟨k, hk, ek⟩ := bnT_nat ha hb hb2 (nI q)
      have et2 : ((nI a / nI b + t0) + 9) / 10 = bnT (nI a) (nI b) (nI q) := by rw [et]; rfl
      have nx : ∀ v : Int32, (v = if gI X 62 w < bnT (nI a) (nI b) (nI q) then 0 else 1) → Ev E m_mo_burn 188 [(0, .ref 55), (1, .int g), (2, .int (nI b)), (3, .int (nI a)), (4, .int (nI q)), (5, .int (nI w)), (6, .int (nI a / nI b + t0)), (7, .int (bnT (nI a) (nI b) (nI q)))] [.int v, .int (nI w), .ref 63] Y (0, 0) (fun r Y' => r = none ∧ Lay S Y' ∧ Cf Y Y' ∧ Rf (bnL g (nI a) (nI b) (d + 1) w (nI q) X) Y' ∧ ∀ i, gI Y' 108 i = gI Y 108 i) := fun v ev => by
        have f := rf_tb (w := w) (t := bnT (nI a) (nI b) (nI q)) c ev
        have rest : Ev E m_mo_burn 103 [(0, .ref 55), (1, .int g), (2, .int (nI b)), (3, .int (nI a)), (4, .int (nI q + 1)), (5, .int (nI w + 1))] [] (gp_sI (gp_sI Y 63 w v) 62 w (if gI X 62 w < bnT (nI a) (nI b) (nI q) then 0 else gI X 62 w - bnT (nI a) (nI b) (nI q))) (0, 0) (fun r Y' => r = none ∧ Lay S Y' ∧ Cf Y Y' ∧ Rf (bnL g (nI a) (nI b) (d + 1) w (nI q) X) Y' ∧ ∀ i, gI Y' 108 i = gI Y 108 i) := by
          rw [eb, nI_s, nI_s]
          exact ev_post (fun r Y' ⟨x1, x2, x3, x4, x5⟩ => ⟨x1, x2, c_tr (cg_sI (cg_sI (cf_0 Y))) x3, x4, fun i => x5 i⟩) (bn_r ha hb hb2 d (w + 1) (q + 1) _ _ (by omega) (tb_inv h hw r1 ek hk) (ly_sI (ly_sI lY)) f)
        refine b_mo_burn_188 lY ⟨vi, by rw [ev]; split <;> decide, vi, ?_⟩
        rw [cl, c 62 _ rfl]
        have e63 : gI (gp_sI Y 63 w v) 63 w = v := if_pos ⟨rfl, rfl⟩
        rw [e63]
        by_cases z : gI X 62 w < bnT (nI a) (nI b) (nI q)
        · rw [if_pos z] at ev rest
          exact ⟨fun _ => rest, fun y => absurd ev y⟩
        · rw [if_neg z] at ev rest
          exact ⟨fun y => absurd (ev.symm.trans y) (by decide), fun _ => rest⟩
      refine b_mo_burn_152 lY ⟨vi, ?_⟩
      rw [cl, c 62 _ rfl, et2]
      exact ⟨fun z => nx 0 (by rw [if_pos z]), fun z => nx 1 (by rw [if_neg z])⟩
    exact ⟨fun z => skip (fun y => y.1 z), fun z => ⟨fun z2 => skip (fun y => bnf z2 y.2), fun z2 => ⟨nb, nb, fun z3 => go z z2 0 (by rw [if_pos z3]), fun z3 => go z z2 1 (by rw [if_neg z3])⟩⟩⟩
/-- what the reference has seen -/
def sn1 (X Y : gp_H) (g : Int32) (i : Nat) : Int32 := if ¬ gI Y 108 i = 0 ∨ (¬ gI X 63 i = 0 ∧ gb g (gI X 60 i) = true) then 1 else 0
theorem s_mo_burn (h : Inv N S X) (lY : Lay S Y) (c : Rf X Y) {g : Int32} {a w : Nat} (ha : a ≤ 800) (ea : usS S X g 1 = nI a) (hw : w < N 2) (hr : ¬ gI X 63 w = 0) (hg : gb g (gI X 60 w) = true) : Ev E m_mo_burn 0 [(0, .ref 55), (1, .int g)] [] Y (0, 0) (fun r Y' => r = none ∧ Lay S Y' ∧ Cf Y Y' ∧ Rf (bnL g (nI a) (shS N X g) (N 2) 0 0 X) Y' ∧ (∀ i, i < N 2 → gI Y' 108 i = sn1 X Y g i)) := by
  have k2 := h.wrk.1.2.1
  have k3 := h.wrk.1.2.2
  obtain ⟨b, hb, hb2, eb⟩ := sh_nat h hw hr hg
  refine b_mo_burn_0 lY ?_
  have e0 : (fun a i => if a = 108 ∧ i < 0 then sn1 X Y g i else gI Y a i) = gI Y := funext fun a => funext fun i => if_neg (fun z => Nat.not_lt_zero _ z.2)
  suffices key : Ev E m_mo_burn 4 [(0, .ref 55), (1, .int g), (2, .int (sm (shF X g) 0)), (3, .int (nI 0))] [] (gp_wI Y (fun a i => if a = 108 ∧ i < 0 then sn1 X Y g i else gI Y a i)) (0, 0) (fun r Y' => r = none ∧ Lay S Y' ∧ Cf Y Y' ∧ Rf (bnL g (nI a) (shS N X g) (N 2) 0 0 X) Y' ∧ (∀ i, i < N 2 → gI Y' 108 i = sn1 X Y g i)) by
    rw [e0] at key
    exact key
  have rk : ∀ k, Rf X (gp_wI Y (fun a i => if a = 108 ∧ i < k then sn1 X Y g i else gI Y a i)) := fun k => rg_w c (fun a i ha => if_neg (fun z => by rw [z.1] at ha; exact absurd ha (by decide)))
  refine dn (P := fun k => Ev E m_mo_burn 4 [(0, .ref 55), (1, .int g), (2, .int (sm (shF X g) k)), (3, .int (nI k))] [] (gp_wI Y (fun a i => if a = 108 ∧ i < k then sn1 X Y g i else gI Y a i)) (0, 0) (fun r Y' => r = none ∧ Lay S Y' ∧ Cf Y Y' ∧ Rf (bnL g (nI a) (shS N X g) (N 2) 0 0 X) Y' ∧ (∀ i, i < N 2 → gI Y' 108 i = sn1 X Y g i))) (n := N 2) ?_ ?_
  · have eb' : sm (shF X g) (N 2) = nI b := eb
    refine b_mo_burn_4 (ly_wI lY) ⟨fun _ => wh_i (s_mo_useAt' h (ly_wI lY) (rk _) g 1) (ly_wI lY) ?_, fun z => absurd (by rw [rk _ 55 6 rfl, k2]; exact Int32.le_refl _) z⟩
    rw [eb', eb, ea]
    refine ev_post (fun r Y' ⟨x1, x2, x3, x4, x5⟩ => ⟨x1, x2, c_tr (cg_w (cf_0 Y) (fun a i ha => if_neg (fun z => by rw [z.1] at ha; exact absurd ha (by decide)))) x3, x4, fun i hi => ?_⟩) (bn_r ha hb hb2 (N 2) 0 0 X _ rfl h (ly_wI lY) (rk _))
    rw [x5]
    show (if 108 = 108 ∧ i < N 2 then sn1 X Y g i else gI Y 108 i) = _
    rw [if_pos ⟨rfl, hi⟩]
  · intro k hk ih
    have vi : vp_in (nI k) 5 := vin (by omega) (by omega)
    have cl : Int32.toNatClampNeg (nI k) = k := nI_c (by omega)
    have e108 : gI (gp_wI Y (fun a i => if a = 108 ∧ i < k then sn1 X Y g i else gI Y a i)) 108 k = gI Y 108 k := if_neg (fun z => by have := z.2; omega)
    have hh : ∀ v : Int32, v = sn1 X Y g k → gp_sI (gp_wI Y (fun a i => if a = 108 ∧ i < k then sn1 X Y g i else gI Y a i)) 108 k v = gp_wI Y (fun a i => if a = 108 ∧ i < k + 1 then sn1 X Y g i else gI Y a i) := fun v ev => by
      refine congrArg (gp_wI Y) (funext fun a => funext fun i => ?_)
      show (if a = 108 ∧ i = k then v else if a = 108 ∧ i < k then sn1 X Y g i else gI Y a i) = (if a = 108 ∧ i < k + 1 then sn1 X Y g i else gI Y a i)
      by_cases z1 : a = 108 ∧ i < k + 1
      · rw [if_pos z1]
        by_cases z2 : i = k
        · rw [if_pos ⟨z1.1, z2⟩, ev, z2]
        · rw [if_neg (fun y => z2 y.2), if_pos ⟨z1.1, by omega⟩]
      · rw [if_neg z1, if_neg (fun y => z1 ⟨y.1, by omega⟩), if_neg (fun y => z1 ⟨y.1, by omega⟩)]
    have e53 : ∀ v : Int32, v = sn1 X Y g k → Ev E m_mo_burn 53 [(0, .ref 55), (1, .int g), (2, .int (sm (shF X g) k)), (3, .int (nI k))] [.int v, .int (nI k), .ref 108] (gp_wI Y (fun a i => if a = 108 ∧ i < k then sn1 X Y g i else gI Y a i)) (0, 0) (fun r Y' => r = none ∧ Lay S Y' ∧ Cf Y Y' ∧ Rf (bnL g (nI a) (shS N X g) (N 2) 0 0 X) Y' ∧ (∀ i, i < N 2 → gI Y' 108 i = sn1 X Y g i)) := fun v ev => by
      refine b_mo_burn_53 (ly_wI lY) ⟨vi, by rw [ev]; unfold sn1; split <;> decide, vi, ?_⟩
      rw [cl, hh v ev, rk _ 63 _ rfl, rk _ 60 _ rfl]
      refine ⟨fun z => b_mo_burn_81 (ly_wI lY) ?_, fun z => ⟨fun z2 => b_mo_burn_81 (ly_wI lY) ?_, fun z2 => ?_⟩⟩
      · rw [sm_0 (if_neg (fun y => y.1 z))] at ih; rw [nI_s, Int32.add_zero]; exact ih
      · rw [sm_0 (if_neg (fun y => bnf z2 y.2))] at ih; rw [nI_s, Int32.add_zero]; exact ih
      · rw [sm_1 (if_pos ⟨z, z2⟩)] at ih; rw [nI_s]; exact ih
    refine b_mo_burn_4 (ly_wI lY) ⟨fun z => absurd z (by rw [rk _ 55 6 rfl, k2]; exact nI_nge hk (by omega)), fun _ => ⟨vi, ?_⟩⟩
    rw [cl, e108, rk _ 63 _ rfl, rk _ 60 _ rfl]
    have y1 : (¬ gI Y 108 k = 0 ∨ (¬ gI X 63 k = 0 ∧ gb g (gI X 60 k) = true)) → 1 = sn1 X Y g k := fun z => by unfold sn1; rw [if_pos z]
    have y0 : ¬ (¬ gI Y 108 k = 0 ∨ (¬ gI X 63 k = 0 ∧ gb g (gI X 60 k) = true)) → 0 = sn1 X Y g k := fun z => by unfold sn1; rw [if_neg z]
    exact ⟨fun z => b_mo_burn_48 (ly_wI lY) (e53 1 (y1 (Or.inl z))), fun z => ⟨fun z2 => b_mo_burn_52 (ly_wI lY) (e53 0 (y0 (fun y => y.elim (fun y => y z) (fun y => y.1 z2)))), fun z2 => ⟨fun z3 => b_mo_burn_52 (ly_wI lY) (e53 0 (y0 (fun y => y.elim (fun y => y z) (fun y => bnf z3 y.2)))), fun z3 => b_mo_burn_48 (ly_wI lY) (e53 1 (y1 (Or.inr ⟨z2, z3⟩)))⟩⟩⟩
/-- all groups of a week -/
noncomputable def ewL (N : Nat → Nat) (S : gp_S) : Nat → Nat → Int32 → gp_H → gp_H
  | 0, _, _, X => X
  | d + 1, w, b, X => if ¬ gI X 63 w = 0 ∧ gb b (gI X 60 w) = false then ewL N S d (w + 1) (b ||| area N X (Int32.toNatClampNeg (gI X 60 w))) (bnL (area N X (Int32.toNatClampNeg (gI X 60 w))) (usS S X (area N X (Int32.toNatClampNeg (gI X 60 w))) 1) (shS N X (area N X (Int32.toNatClampNeg (gI X 60 w)))) (N 2) 0 0 X) else ewL N S d (w + 1) b X
theorem ew_self (h : Inv N S X) {w : Nat} (hw : w < N 2) : ∃ k, k < N 0 ∧ gI X 60 w = nI k ∧ Int32.toNatClampNeg (gI X 60 w) = k ∧ gb (area N X k) (nI k) = true := by
  have hn := h.net.1
  obtain ⟨k, m, c, p1, p2, -⟩ := h.wrk.2.2.1 w hw
  refine ⟨k, p1, p2, by rw [p2, nI_c (by omega)], ?_⟩
  rw [gb_bt _ (by omega)]
  exact (ST_bt (by omega)).mpr (clo_0 ((one_S (by omega)).mpr ⟨rfl, by rw [bt_all (N 0) (by omega) k (by omega)]; exact decide_eq_true p1⟩))
theorem bn_step (h : Inv N S X) {w : Nat} (hw : w < N 2) (hr : ¬ gI X 63 w = 0) {g : Int32} (hg : gb g (gI X 60 w) = true) : Inv N S (bnL g (usS S X g 1) (shS N X g) (N 2) 0 0 X) := by
  obtain ⟨a, ha, ea⟩ := us_nat h g 1
  obtain ⟨b, hb, hb2, eb⟩ := sh_nat h hw hr hg
  rw [ea, eb]
  exact bn_inv ha hb hb2 (N 2) 0 0 X rfl h
theorem ew_inv : ∀ (d w : Nat) (b : Int32) (X : gp_H), d + w = N 2 → Inv N S X → Inv N S (ewL N S d w b X)
  | 0, _, _, _, _, h => h
  | d + 1, w, b, X, e, h => by
    unfold ewL
    split
    · rename_i c
      obtain ⟨k, p1, p2, p3, p4⟩ := ew_self h (show w < N 2 by omega)
      rw [p3]
      exact ew_inv d (w + 1) _ _ (by omega) (bn_step h (show w < N 2 by omega) c.1 (by rw [p2]; exact p4))
    · exact ew_inv d (w + 1) b X (by omega) h
theorem ew_c {Q : Option Value → gp_H → Prop} : ∀ (d w : Nat) (b : Int32) (X Y : gp_H), d + w = N 2 → Inv N S X → Lay S Y → Cf X Y → (∀ Y' b', Lay S Y' → Rf Y Y' → Cf (ewL N S d w b X) Y' → Ev E m_ga_endWeek 4 [(0, .ref 0), (1, .int b'), (2, .int (nI (N 2)))] [] Y' (0, 0) Q) → Ev E m_ga_endWeek 4 [(0, .ref 0), (1, .int b), (2, .int (nI w))] [] Y (0, 0) Q
  | 0, w, b, X, Y, e, h, lY, c, K => by
    obtain rfl : w = N 2 := by omega
    exact K Y b lY (rf_0 Y) c
  | d + 1, w, b, X, Y, e, h, lY, c, K => by
    have k1 := h.wrk.1.1
    have k3 := h.wrk.1.2.2
    have hw : w < N 2 := by omega
    obtain ⟨e1, e2, e3, e4⟩ := h.wrk.2.1 w
    obtain ⟨k, p1, p2, p3, p4⟩ := ew_self h hw
    refine b_ga_endWeek_4 lY ⟨fun z => absurd z (by rw [c 1 9 rfl, k1]; exact nI_nge hw (by omega)), fun _ => ⟨vin (by omega) (by omega), ?_⟩⟩
    rw [nI_c (k := w) (by omega), c 11 _ rfl, c 8 _ rfl, e1, e4]
    have skip : ¬ (¬ gI X 63 w = 0 ∧ gb b (gI X 60 w) = false) → Ev E m_ga_endWeek 4 [(0, .ref 0), (1, .int b), (2, .int (nI w + 1))] [] Y (0, 0) Q := fun z => by
      have : ewL N S (d + 1) w b X = ewL N S d (w + 1) b X := if_neg z
      rw [this] at K
      rw [nI_s]
      exact ew_c d (w + 1) b X Y (by omega) h lY c K
    refine ⟨fun z => skip (fun y => y.1 z), fun z => ⟨fun z2 => ?_, fun z2 => skip (fun y => bne z2 y.2)⟩⟩
    have : ewL N S (d + 1) w b X = ewL N S d (w + 1) (b ||| area N X k) (bnL (area N X k) (usS S X (area N X k) 1) (shS N X (area N X k)) (N 2) 0 0 X) := by
      rw [← p3]; exact if_pos ⟨z, z2⟩
    rw [this] at K
    rw [p2]
    have hg : gb (area N X k) (gI X 60 w) = true := by rw [p2]; exact p4
    refine wh_i (s_ne_areaOf' h lY c k) lY (wh_i (s_ga_useIn' h lY c _ 1) lY ?_)
    obtain ⟨a, ha, ea⟩ := us_nat h (area N X k) 1
    have bi := bn_step h hw z hg
    rw [ea] at K bi ⊢
    refine ⟨_, s_ne_burnCoal h lY c ha hw z hg, fun r Y1 ⟨x1, x2, x3, x4⟩ => ⟨x1, x2, ?_⟩⟩
    rw [nI_s]
    exact ew_c d (w + 1) _ _ Y1 (by omega) bi x2 x4 (fun Y' b' l' r' c' => K Y' b' l' (r_tr x3 r') c')
theorem ew_r {Q : Option Value → gp_H → Prop} : ∀ (d w : Nat) (b : Int32) (X Y : gp_H), d + w = N 2 → Inv N S X → Lay S Y → Rf X Y → (∀ i, i < N 2 → ¬ gI X 63 i = 0 → (¬ gI Y 108 i = 0 ↔ gb b (gI X 60 i) = true)) → (∀ Y', Lay S Y' → Cf Y Y' → Rf (ewL N S d w b X) Y' → Ev E m_mo_ends 25 [(0, .ref 55), (1, .int (nI (N 2)))] [] Y' (0, 0) Q) → Ev E m_mo_ends 25 [(0, .ref 55), (1, .int (nI w))] [] Y (0, 0) Q
  | 0, w, b, X, Y, e, h, lY, c, s1, K => by
    obtain rfl : w = N 2 := by omega
    exact K Y lY (cf_0 Y) c
  | d + 1, w, b, X, Y, e, h, lY, c, s1, K => by
    have k2 := h.wrk.1.2.1
    have k3 := h.wrk.1.2.2
    have hw : w < N 2 := by omega
    obtain ⟨k, p1, p2, p3, p4⟩ := ew_self h hw
    refine b_mo_ends_25 lY ⟨fun z => absurd z (by rw [c 55 6 rfl, k2]; exact nI_nge hw (by omega)), fun _ => ⟨vin (by omega) (by omega), ?_⟩⟩
    rw [nI_c (k := w) (by omega), c 63 _ rfl, c 60 _ rfl]
    have skip : ¬ (¬ gI X 63 w = 0 ∧ gb b (gI X 60 w) = false) → Ev E m_mo_ends 25 [(0, .ref 55), (1, .int (nI w + 1))] [] Y (0, 0) Q := fun z => by
      have : ewL N S (d + 1) w b X = ewL N S d (w + 1) b X := if_neg z
      rw [this] at K
      rw [nI_s]
      exact ew_r d (w + 1) b X Y (by omega) h lY c s1 K
    refine ⟨fun z => skip (fun y => y.1 z), fun z => ⟨fun z2 => skip (fun y => bne ((s1 w hw z).mp z2) y.2), fun z2 => ?_⟩⟩
    have z2' : gb b (gI X 60 w) = false := by
      cases q : gb b (gI X 60 w) with
      | false => rfl
      | true => exact absurd z2 ((s1 w hw z).mpr q)
    have : ewL N S (d + 1) w b X = ewL N S d (w + 1) (b ||| area N X k) (bnL (area N X k) (usS S X (area N X k) 1) (shS N X (area N X k)) (N 2) 0 0 X) := by
      rw [← p3]; exact if_pos ⟨z, z2'⟩
    rw [this] at K
    have hg : gb (area N X k) (gI X 60 w) = true := by rw [p2]; exact p4
    have bi := bn_step h hw z hg
    obtain ⟨a, ha, ea⟩ := us_nat h (area N X k) 1
    rw [p2]
    refine wh_i (s_mo_areaOf' h lY c k) lY ?_
    refine ⟨_, s_mo_burn h lY c ha ea hw z hg, fun r Y1 ⟨x1, x2, x3, x4, x5⟩ => ⟨x1, x2, ?_⟩⟩
    rw [nI_s]
    rw [ea] at bi K
    refine ew_r d (w + 1) _ _ Y1 (by omega) bi x2 x4 (fun i hi hri => ?_) (fun Y' l' c' r' => K Y' l' (c_tr x3 c') r')
    have hx := bn_run (N 2) 0 0 X hri
    obtain ⟨ki, q1, q2, -⟩ := ew_self h hi
    rw [x5 i hi, bn_ne (by decide) (by decide) (by decide) (by decide), q2, gb_bt _ (by have := h.net.1.2.2; omega), b_or, Bool.or_eq_true]
    have s1' := s1 i hi hx
    rw [q2, gb_bt _ (by have := h.net.1.2.2; omega)] at s1'
    unfold sn1
    rw [q2, gb_bt _ (by have := h.net.1.2.2; omega)]
    constructor
    · intro y
      split at y
      · rename_i yy
        exact yy.elim (fun q => Or.inl (s1'.mp q)) (fun q => Or.inr q.2)
      · exact absurd rfl y
    · intro y
      rw [if_pos (y.elim (fun q => Or.inl (s1'.mpr q)) (fun q => Or.inr ⟨hx, q⟩))]
      decide
/-- orders that come -/
def odV (X : gp_H) (o : Nat) : Int32 := if gI X 81 (Int32.toNatClampNeg (gI X 82 o)) + gI X 83 o ≤ 9999 then gI X 81 (Int32.toNatClampNeg (gI X 82 o)) + gI X 83 o else 9999
def odX (X : gp_H) (o : Nat) : gp_H := gp_sI (gp_sI X 19 (Int32.toNatClampNeg (gI X 82 o)) (odV X o)) 81 (Int32.toNatClampNeg (gI X 82 o)) (odV X o)
def odL : Nat → Nat → gp_H → gp_H
  | 0, _, X => X
  | d + 1, o, X => if gI X 84 o = gI X 55 44 then odL d (o + 1) (odX X o) else odL d (o + 1) X
theorem odX_inv (h : Inv N S X) {o : Nat} (ho : o < N 6) : Inv N S (odX X o) := by
  obtain ⟨a, b, c, p1, p2, p3, p4, p5, p6, p7⟩ := h.ord.2.2 o ho
  obtain ⟨n, hn, en⟩ := (h.stk a).2
  have q := h.stk
  have ev : ∃ m, m ≤ 9999 ∧ odV X o = nI m := by
    unfold odV
    rw [p2, nI_c (by omega), en, p5, nI_add]
    split
    · rename_i z
      exact ⟨n + b, (nI_leI (b := 9999) (by omega) (by omega)).mp z, rfl⟩
    · exact ⟨9999, by omega, rfl⟩
  obtain ⟨m, hm, em⟩ := ev
  unfold odX
  rw [p2, nI_c (by omega), em]
  have hx := X_sI (a := 81) (k := a) (v := nI m) (X_sI (a := 19) (k := a) (v := nI m) (X_0 h))
  have r81 : ∀ i, gI (gp_sI (gp_sI X 19 a (nI m)) 81 a (nI m)) 81 i = if i = a then nI m else gI X 81 i := (fun i => by simp only [gI_sI, Nat.reduceEqDiff, false_and, true_and, and_false, and_true, ite_false, ite_true, ↓reduceIte, reduceCtorEq])
  exact ⟨hx.1, (hx.2.1 rfl), (hx.2.2.1 rfl), (hx.2.2.2.1 rfl), (hx.2.2.2.2.1 rfl), (hx.2.2.2.2.2.1 rfl), (hx.2.2.2.2.2.2.1 rfl), (hx.2.2.2.2.2.2.2.1 rfl), fun i => ⟨two_rows (fun i => (q i).1) (n := a) (v := nI m) (fun i => by simp only [gI_sI, Nat.reduceEqDiff, false_and, true_and, and_false, and_true, ite_false, ite_true, ↓reduceIte, reduceCtorEq]) (fun i => by simp only [gI_sI, Nat.reduceEqDiff, false_and, true_and, and_false, and_true, ite_false, ite_true, ↓reduceIte, reduceCtorEq]) i, by
    by_cases z : i = a
    · rw [z, row_at r81]; exact ⟨m, hm, rfl⟩
    · rw [row_ne r81 z]; exact (q i).2⟩, (hx.2.2.2.2.2.2.2.2.2.1 rfl), (hx.2.2.2.2.2.2.2.2.2.2.1 rfl), (hx.2.2.2.2.2.2.2.2.2.2.2.1 rfl), (hx.2.2.2.2.2.2.2.2.2.2.2.2.1 rfl), (hx.2.2.2.2.2.2.2.2.2.2.2.2.2.1 rfl), (hx.2.2.2.2.2.2.2.2.2.2.2.2.2.2.1 rfl), (hx.2.2.2.2.2.2.2.2.2.2.2.2.2.2.2.1 rfl), (hx.2.2.2.2.2.2.2.2.2.2.2.2.2.2.2.2.1 rfl), (hx.2.2.2.2.2.2.2.2.2.2.2.2.2.2.2.2.2.1 rfl), (hx.2.2.2.2.2.2.2.2.2.2.2.2.2.2.2.2.2.2.1 rfl), (hx.2.2.2.2.2.2.2.2.2.2.2.2.2.2.2.2.2.2.2.1 rfl), (hx.2.2.2.2.2.2.2.2.2.2.2.2.2.2.2.2.2.2.2.2.1 rfl), (hx.2.2.2.2.2.2.2.2.2.2.2.2.2.2.2.2.2.2.2.2.2 rfl)⟩
theorem od_inv : ∀ (d o : Nat) (X : gp_H), d + o = N 6 → Inv N S X → Inv N S (odL d o X)
  | 0, _, _, _, h => h
  | d + 1, o, X, e, h => by
    unfold odL
    split
    · exact od_inv d (o + 1) _ (by omega) (odX_inv h (by omega))
    · exact od_inv d (o + 1) X (by omega) h
theorem od_c {x1 : Int32} : ∀ (d o : Nat) (X Y : gp_H), d + o = N 6 → Inv N S X → Lay S Y → Cf X Y → Ev E m_ga_endWeek 99 [(0, .ref 0), (1, .int x1), (2, .int (nI o))] [] Y (0, 0) (fun r Y' => r = none ∧ Lay S Y' ∧ Rf Y Y' ∧ Cf (odL d o X) Y')
  | 0, o, X, Y, e, h, lY, c => by
    obtain rfl : o = N 6 := by omega
    exact b_ga_endWeek_99 lY ⟨fun _ => ⟨rfl, lY, rf_0 Y, c⟩, fun z => absurd (by rw [c 0 14 rfl, h.ord.1.1]; exact Int32.le_refl _) z⟩
  | d + 1, o, X, Y, e, h, lY, c => by
    have k3 := h.ord.1.2.2
    have ho : o < N 6 := by omega
    obtain ⟨a, b, cc, p1, p2, p3, p4, p5, p6, p7⟩ := h.ord.2.2 o ho
    obtain ⟨q1, q2, q3⟩ := h.ord.2.1 o
    obtain ⟨w1, w2, w3⟩ := h.wek
    refine b_ga_endWeek_99 lY ⟨fun z => absurd z (by rw [c 0 14 rfl, h.ord.1.1]; exact nI_nge ho (by omega)), fun _ => ⟨vin (by omega) (by omega), ?_⟩⟩
    rw [nI_c (k := o) (by omega), c 22 _ rfl, c 0 16 rfl, c 20 _ rfl, c 21 _ rfl, q1, q2, q3, w1, ← w2, nI_s]
    refine ⟨fun z => ?_, fun z => ?_⟩
    · have : odL (d + 1) o X = odL d (o + 1) (odX X o) := if_pos z
      rw [this]
      have ev : (if gI Y 19 (Int32.toNatClampNeg (gI X 82 o)) + gI X 83 o < 9999 then gI Y 19 (Int32.toNatClampNeg (gI X 82 o)) + gI X 83 o else 9999) = odV X o := by
        rw [c 19 _ rfl, (h.stk _).1]
        unfold odV
        by_cases y : gI X 81 (Int32.toNatClampNeg (gI X 82 o)) + gI X 83 o ≤ 9999
        · rw [if_pos y]
          by_cases y2 : gI X 81 (Int32.toNatClampNeg (gI X 82 o)) + gI X 83 o < 9999
          · rw [if_pos y2]
          · rw [if_neg y2]
            exact (Int32.le_antisymm y (Int32.not_lt.mp y2)).symm
        · rw [if_neg y, if_neg (fun y2 => y (Int32.le_of_lt y2))]
      rw [ev]
      refine ⟨by rw [p2]; exact vin (by omega) (by omega), ?_⟩
      exact ev_post (fun r Y' ⟨x1, x2, x3, x4⟩ => ⟨x1, x2, r_tr (rg_sI (rf_0 Y)) x3, x4⟩) (od_c d (o + 1) _ _ (by omega) (odX_inv h ho) (ly_sI lY) (cl_ (cb c)))
    · have : odL (d + 1) o X = odL d (o + 1) X := if_neg z
      rw [this]
      exact od_c d (o + 1) X Y (by omega) h lY c
theorem od_r : ∀ (d o : Nat) (X Y : gp_H), d + o = N 6 → Inv N S X → Lay S Y → Rf X Y → Ev E m_mo_ends 83 [(0, .ref 55), (1, .int (nI o))] [] Y (0, 0) (fun r Y' => r = none ∧ Lay S Y' ∧ Cf Y Y' ∧ Rf (odL d o X) Y')
  | 0, o, X, Y, e, h, lY, c => by
    obtain rfl : o = N 6 := by omega
    exact b_mo_ends_83 lY ⟨fun _ => ⟨rfl, lY, cf_0 Y, c⟩, fun z => absurd (by rw [c 55 33 rfl, h.ord.1.2.1]; exact Int32.le_refl _) z⟩
  | d + 1, o, X, Y, e, h, lY, c => by
    have k3 := h.ord.1.2.2
    have ho : o < N 6 := by omega
    obtain ⟨a, b, cc, p1, p2, p3, p4, p5, p6, p7⟩ := h.ord.2.2 o ho
    refine b_mo_ends_83 lY ⟨fun z => absurd z (by rw [c 55 33 rfl, h.ord.1.2.1]; exact nI_nge ho (by omega)), fun _ => ⟨vin (by omega) (by omega), ?_⟩⟩
    rw [nI_c (k := o) (by omega), c 84 _ rfl, c 55 44 rfl, c 82 _ rfl, c 83 _ rfl, c 81 _ rfl, nI_s]
    refine ⟨fun z => ?_, fun z => ⟨by rw [p2]; exact vin (by omega) (by omega), ?_⟩⟩
    · have : odL (d + 1) o X = odL d (o + 1) X := if_neg z
      rw [this]
      exact od_r d (o + 1) X Y (by omega) h lY c
    · have : odL (d + 1) o X = odL d (o + 1) (odX X o) := if_pos z
      rw [this]
      have go : ∀ v : Int32, v = odV X o → Ev E m_mo_ends 83 [(0, .ref 55), (1, .int (nI (o + 1)))] [] (gp_sI Y 81 (Int32.toNatClampNeg (gI X 82 o)) v) (0, 0) (fun r Y' => r = none ∧ Lay S Y' ∧ Cf Y Y' ∧ Rf (odL d (o + 1) (odX X o)) Y') := fun v ev => by
        rw [ev]
        exact ev_post (fun r Y' ⟨x1, x2, x3, x4⟩ => ⟨x1, x2, c_tr (cg_sI (cf_0 Y)) x3, x4⟩) (od_r d (o + 1) _ _ (by omega) (odX_inv h ho) (ly_sI lY) (rb (rl_ c)))
      exact ⟨fun y => go _ (by unfold odV; rw [if_pos y]), fun y => go _ (by unfold odV; rw [if_neg y])⟩
/-- a week's end -/
def TW (X : gp_H) : gp_H := gp_sI (gp_sI X 0 16 (gI X 55 44 + 1)) 55 44 (gI X 55 44 + 1)
noncomputable def ewZ (N : Nat → Nat) (S : gp_S) (X : gp_H) : gp_H := odL (N 6) 0 (TW (ewL N S (N 2) 0 0 X))
theorem tw_inv (h : Inv N S X) (hl : N 13 < 200) : Inv (fun i => if i = 13 then N 13 + 1 else N i) S (TW X) := by
  obtain ⟨w1, w2, w3⟩ := h.wek
  unfold TW
  rw [w2, nI_s]
  have hx := X_sI (a := 55) (k := 44) (v := nI (N 13 + 1)) (X_sI (a := 0) (k := 16) (v := nI (N 13 + 1)) (X_0 h))
  exact ⟨hx.1, (hx.2.1 rfl), (hx.2.2.1 rfl), (hx.2.2.2.1 rfl), (hx.2.2.2.2.1 rfl), (hx.2.2.2.2.2.1 rfl), (hx.2.2.2.2.2.2.1 rfl), (hx.2.2.2.2.2.2.2.1 rfl), (hx.2.2.2.2.2.2.2.2.1 rfl), (hx.2.2.2.2.2.2.2.2.2.1 rfl), (hx.2.2.2.2.2.2.2.2.2.2.1 rfl), (hx.2.2.2.2.2.2.2.2.2.2.2.1 rfl), (hx.2.2.2.2.2.2.2.2.2.2.2.2.1 rfl), ⟨rfl, rfl, hl⟩, (hx.2.2.2.2.2.2.2.2.2.2.2.2.2.2.1 rfl), (hx.2.2.2.2.2.2.2.2.2.2.2.2.2.2.2.1 rfl), (hx.2.2.2.2.2.2.2.2.2.2.2.2.2.2.2.2.1 rfl), (hx.2.2.2.2.2.2.2.2.2.2.2.2.2.2.2.2.2.1 rfl), (hx.2.2.2.2.2.2.2.2.2.2.2.2.2.2.2.2.2.2.1 rfl), (hx.2.2.2.2.2.2.2.2.2.2.2.2.2.2.2.2.2.2.2.1 rfl), (hx.2.2.2.2.2.2.2.2.2.2.2.2.2.2.2.2.2.2.2.2.1 rfl), (hx.2.2.2.2.2.2.2.2.2.2.2.2.2.2.2.2.2.2.2.2.2 rfl)⟩
theorem ewZ_inv (h : Inv N S X) (hl : N 13 < 200) : Inv (fun i => if i = 13 then N 13 + 1 else N i) S (ewZ N S X) := od_inv (N := fun i => if i = 13 then N 13 + 1 else N i) (N 6) 0 _ rfl (tw_inv (ew_inv (N 2) 0 0 X rfl h) hl)
theorem s_ga_endWeek (h : Inv N S X) (hl : N 13 < 200) (lY : Lay S Y) (c : Cf X Y) : Ev E m_ga_endWeek 0 [(0, .ref 0)] [] Y (0, 0) (fun r Y' => r = none ∧ Lay S Y' ∧ Rf Y Y' ∧ Cf (ewZ N S X) Y') := by
  refine b_ga_endWeek_0 lY (ew_c (N 2) 0 0 X Y rfl h lY c (fun Y1 b l1 r1 c1 => ?_))
  have h1 := ew_inv (N 2) 0 0 X rfl h
  have h2 := tw_inv h1 hl
  refine b_ga_endWeek_4 l1 ⟨fun _ => ?_, fun z => absurd (by rw [c1 1 9 rfl, h1.wrk.1.1]; exact Int32.le_refl _) z⟩
  rw [c1 0 16 rfl, h1.wek.1, ← h1.wek.2.1]
  exact ev_post (fun r Y' ⟨x1, x2, x3, x4⟩ => ⟨x1, x2, r_tr (r_tr r1 (rg_sI (rf_0 Y1))) x3, x4⟩) (od_c (N := fun i => if i = 13 then N 13 + 1 else N i) (N 6) 0 _ _ rfl h2 (ly_sI l1) (cl_ (cb c1)))
theorem s_mo_ends (h : Inv N S X) (hl : N 13 < 200) (lY : Lay S Y) (c : Rf X Y) : Ev E m_mo_ends 0 [(0, .ref 55)] [] Y (0, 0) (fun r Y' => r = none ∧ Lay S Y' ∧ Cf Y Y' ∧ Rf (ewZ N S X) Y') := by
  have k2 := h.wrk.1.2.1
  have k3 := h.wrk.1.2.2
  refine b_mo_ends_0 lY ?_
  have e0 : (fun a i => if a = 108 ∧ i < 0 then 0 else gI Y a i) = gI Y := funext fun a => funext fun i => if_neg (fun z => Nat.not_lt_zero _ z.2)
  suffices key : Ev E m_mo_ends 2 [(0, .ref 55), (1, .int (nI 0))] [] (gp_wI Y (fun a i => if a = 108 ∧ i < 0 then 0 else gI Y a i)) (0, 0) (fun r Y' => r = none ∧ Lay S Y' ∧ Cf Y Y' ∧ Rf (ewZ N S X) Y') by
    rw [e0] at key
    exact key
  have rk : ∀ k, Rf X (gp_wI Y (fun a i => if a = 108 ∧ i < k then 0 else gI Y a i)) := fun k => rg_w c (fun a i ha => if_neg (fun z => by rw [z.1] at ha; exact absurd ha (by decide)))
  refine dn (P := fun k => Ev E m_mo_ends 2 [(0, .ref 55), (1, .int (nI k))] [] (gp_wI Y (fun a i => if a = 108 ∧ i < k then 0 else gI Y a i)) (0, 0) (fun r Y' => r = none ∧ Lay S Y' ∧ Cf Y Y' ∧ Rf (ewZ N S X) Y')) (n := N 2) ?_ ?_
  · refine b_mo_ends_2 (ly_wI lY) ⟨fun _ => ?_, fun z => absurd (by rw [rk _ 55 6 rfl, k2]; exact Int32.le_refl _) z⟩
    refine ew_r (N 2) 0 0 X _ rfl h (ly_wI lY) (rk _) (fun i hi _ => ?_) (fun Y1 l1 c1 r1 => ?_)
    · have e : gI (gp_wI Y (fun a i => if a = 108 ∧ i < N 2 then 0 else gI Y a i)) 108 i = 0 := if_pos ⟨rfl, hi⟩
      obtain ⟨ki, q1, q2, -⟩ := ew_self h hi
      rw [e, q2, gb_bt _ (by have := h.net.1.2.2; omega), b_0]
      exact ⟨fun z => absurd rfl z, fun z => absurd z (by decide)⟩
    · have h1 := ew_inv (N 2) 0 0 X rfl h
      have h2 := tw_inv h1 hl
      refine b_mo_ends_25 l1 ⟨fun _ => ?_, fun z => absurd (by rw [r1 55 6 rfl, h1.wrk.1.2.1]; exact Int32.le_refl _) z⟩
      rw [r1 55 44 rfl]
      refine ev_post (fun r Y' ⟨x1, x2, x3, x4⟩ => ⟨x1, x2, c_tr (c_tr (c_tr (cg_w (cf_0 Y) (fun a i ha => if_neg (fun z => by rw [z.1] at ha; exact absurd ha (by decide)))) c1) (cg_sI (cf_0 Y1))) x3, x4⟩) (od_r (N := fun i => if i = 13 then N 13 + 1 else N i) (N 6) 0 _ _ rfl h2 (ly_sI l1) (rb (rl_ r1)))
  · intro k hk ih
    refine b_mo_ends_2 (ly_wI lY) ⟨fun z => absurd z (by rw [rk _ 55 6 rfl, k2]; exact nI_nge hk (by omega)), fun _ => ⟨vin (by omega) (by omega), ?_⟩⟩
    rw [nI_c (by omega), nI_s]
    have hh : gp_sI (gp_wI Y (fun a i => if a = 108 ∧ i < k then 0 else gI Y a i)) 108 k 0 = gp_wI Y (fun a i => if a = 108 ∧ i < k + 1 then 0 else gI Y a i) := by
      refine congrArg (gp_wI Y) (funext fun a => funext fun i => ?_)
      show (if a = 108 ∧ i = k then 0 else if a = 108 ∧ i < k then 0 else gI Y a i) = (if a = 108 ∧ i < k + 1 then 0 else gI Y a i)
      by_cases z1 : a = 108 ∧ i < k + 1
      · rw [if_pos z1]
        by_cases z2 : i = k
        · rw [if_pos ⟨z1.1, z2⟩]
        · rw [if_neg (fun y => z2 y.2), if_pos ⟨z1.1, by omega⟩]
      · rw [if_neg z1, if_neg (fun y => z1 ⟨y.1, by omega⟩), if_neg (fun y => z1 ⟨y.1, by omega⟩)]
    rw [hh]; exact ih
theorem odL_ne {a i : Nat} (h1 : a ≠ 19) (h2 : a ≠ 81) : ∀ (d o : Nat) (X : gp_H), gI (odL d o X) a i = gI X a i
  | 0, _, _ => rfl
  | d + 1, o, X => by
    unfold odL
    split
    · rw [odL_ne h1 h2 d (o + 1)]
      unfold odX
      simp only [gI_sI]
      rw [if_neg (fun z => h2 z.1), if_neg (fun z => h1 z.1)]
    · exact odL_ne h1 h2 d (o + 1) X
end WK
theorem p_week {E : gp_E} {N : Nat → Nat} {S : gp_S} {X : gp_H} (h : Inv N S X) : Ev E m_ga_week 0 [(0, .ref 0)] [] X (0, 0) (gp_two E m_mo_week [(0, .ref 55)]) := by
  have hL := h.lay
  obtain ⟨w1, w2, w3⟩ := h.wek
  refine b_ga_week_0 hL ?_
  rw [w1]
  refine ⟨fun c => ?_, fun c => ⟨_, S, rfl, hL, b_mo_week_0 hL ?_⟩⟩
  · have hl : N 13 < 200 := (nI_lt_lit (k := 200) rfl (by omega) (by omega)).mp c
    have hz := ewZ_inv h hl
    refine ⟨_, s_ga_endWeek h hl hL (cf_0 X), fun r Y ⟨x1, x2, x3, x4⟩ => ⟨x1, x2, _, S, rfl, x2, b_mo_week_0 x2 ?_⟩⟩
    rw [x3 55 44 rfl, w2, x4 0 16 rfl, hz.wek.1]
    refine ⟨fun _ => ⟨_, s_mo_ends h hl x2 x3, fun r Z ⟨y1, y2, y3, y4⟩ => ⟨y1, y2, ?_, _, inv_cr hz y2 (c_tr x4 y3) y4⟩⟩, fun z => absurd ((nI_eq_lit (k := 200) rfl (by omega) (by omega)).mp z) (by omega)⟩
    rw [y4 55 44 rfl, hz.wek.2.1]
  · have hl : ¬ N 13 < 200 := fun y => c ((nI_lt_lit (k := 200) rfl (by omega) (by omega)).mpr y)
    rw [w2]
    exact ⟨fun z => absurd ((nI_eq_lit (n := N 13) (k := 200) rfl (by omega) (by omega)).mpr (by omega)) z, fun _ => ⟨rfl, N, h⟩⟩
