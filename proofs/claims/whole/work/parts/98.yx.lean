section LAW
variable {E : gp_E} {N : Nat → Nat} {S : gp_S} {X Y : gp_H}
def sF (i : Nat) : UInt32 := if i = 0 then 0 else 2
def ln (i : Nat) : Nat := gp_len.getD i 0
def sg (i f : Nat) : Int32 := (gp_byt.getD i []).getD f 0
theorem sF_n : ∀ {i : Nat}, i < 2 → (sF i).toNat = 2 * i
  | 0, _ => rfl
  | 1, _ => rfl
theorem ln_le : ∀ {i : Nat}, i < 2 → ln i ≤ 25
  | 0, _ => by decide
  | 1, _ => by decide
theorem s_len : ∀ {i : Nat}, i < 2 → Ev E m_st_length 0 [(0, .float (sF i))] [] X (0, 0) (gp_q (some (.int (nI (ln i)))) X)
  | 0, _ => s_length0
  | 1, _ => s_length1
theorem s_chr {k : Nat} : ∀ {i : Nat}, i < 2 → k < ln i → Ev E m_st_charAt 0 [(0, .float (sF i)), (1, .int (nI k))] [] X (0, 0) (gp_q (some (.int (sg i k))) X)
  | 0, _, hk => s_char0 hk
  | 1, _, hk => s_char1 hk
/-- is the sign a number's -/
def nd (i f : Nat) : Bool := iw (sg i f) 48 57
def dc (i f : Nat) : Nat := cn (nd i) f
def mo (i f : Nat) : Nat := (sg i f - 48).toNatClampNeg
def qs (i j : Nat) : Nat := if i = 0 then j else if j = 0 then 3 else j - 1
def mst (q : Nat) : Nat := if q = 0 then 1 else if q = 3 then 4 else 3
def rsg (i f : Nat) : Int32 := if i = 0 then barF.getD f 0 else payF.getD f 0
def tbB (i f : Nat) : Bool := (!nd i f || (decide (sg i f - 48 = nI (mo i f)) && Nat.blt (dc i f) 3 && Nat.ble (mo i f) 4 && decide (rsg i f = nI (qs i (dc i f))) && Nat.blt (qs i (dc i f)) 4 && Nat.beq (mst (qs i (dc i f))) (mo i f))) && (nd i f || (decide (rsg i f = sg i f) && decide (4 ≤ rsg i f) && !decide (sg i f = -1)))
theorem tbB_0 : ∀ f, f < 24 → tbB 0 f = true := by decide +kernel
theorem tbB_1 : ∀ f, f < 25 → tbB 1 f = true := by decide +kernel
theorem tbB_a : ∀ i, i < 2 → ∀ f, f < ln i → tbB i f = true
  | 0, _, f, hf => tbB_0 f hf
  | 1, _, f, hf => tbB_1 f hf
theorem tab (i : Nat) (hi : i < 2) (f : Nat) (hf : f < ln i) : (nd i f = true → sg i f - 48 = nI (mo i f) ∧ dc i f < 3 ∧ mo i f ≤ 4 ∧ rsg i f = nI (qs i (dc i f)) ∧ qs i (dc i f) < 4 ∧ mst (qs i (dc i f)) = mo i f) ∧ (nd i f = false → rsg i f = sg i f ∧ 4 ≤ rsg i f ∧ ¬ sg i f = -1) := by
  have h := tbB_a i hi f hf
  unfold tbB at h
  rw [Bool.and_eq_true] at h
  refine ⟨fun z => ?_, fun z => ?_⟩
  · have h1 := h.1
    rw [z] at h1
    simp only [Bool.not_true, Bool.false_or, Bool.and_eq_true, decide_eq_true_eq, Nat.blt_eq, Nat.ble_eq, Nat.beq_eq] at h1
    obtain ⟨⟨⟨⟨⟨a, b⟩, c⟩, d⟩, e⟩, g⟩ := h1
    exact ⟨a, b, c, d, e, g⟩
  · have h1 := h.2
    rw [z] at h1
    simp only [Bool.false_or, Bool.and_eq_true, decide_eq_true_eq, Bool.not_eq_true', decide_eq_false_iff_not] at h1
    exact ⟨h1.1.1, h1.1.2, h1.2⟩
theorem qs_ne : ∀ i, i < 2 → ∀ a, a < 3 → ∀ b, b < 3 → a ≠ b → qs i a ≠ qs i b := by decide
/-- where the digits end, and what they say -/
def dE (T : Nat → Int32) (n : Nat) : Nat → Nat → Nat
  | 0, p => p
  | m + 1, p => if p < n ∧ iw (T p) 48 57 = true then dE T n m (p + 1) else p
def dW (T : Nat → Int32) : Nat → Nat → Int32 → Int32
  | 0, _, v => v
  | k + 1, p, v => dW T k (p + 1) (v * 10 + T p - 48)
theorem dW_s (T : Nat → Int32) : ∀ (k p : Nat) (v : Int32), dW T (k + 1) p v = dW T k p v * 10 + T (p + k) - 48
  | 0, p, v => rfl
  | k + 1, p, v => by
    show dW T (k + 1) (p + 1) (v * 10 + T p - 48) = _
    rw [dW_s T k (p + 1)]
    show _ = dW T k (p + 1) (v * 10 + T p - 48) * 10 + T (p + (k + 1)) - 48
    rw [show p + 1 + k = p + (k + 1) by omega]
theorem dE_le (T : Nat → Int32) (n : Nat) : ∀ (m p : Nat), p ≤ n → p ≤ dE T n m p ∧ dE T n m p ≤ n
  | 0, p, h => ⟨Nat.le_refl _, h⟩
  | m + 1, p, h => by
    unfold dE
    split
    · rename_i z
      have := dE_le T n m (p + 1) (by omega)
      omega
    · exact ⟨Nat.le_refl _, h⟩
/-- a form against the tape -/
def mt (i : Nat) (T : Nat → Int32) (n : Nat) : Nat → Nat → Nat → List Int32 → Bool × Nat × List Int32
  | 0, _, p, ns => (true, p, ns)
  | d + 1, f, p, ns => if nd i f = true then (if dE T n (mo i f) p = p then (false, p, ns) else mt i T n d (f + 1) (dE T n (mo i f) p) (ns ++ [dW T (dE T n (mo i f) p - p) p 0])) else if p < n ∧ T p = sg i f then mt i T n d (f + 1) (p + 1) ns else (false, p, ns)
def mtR (n : Nat) (r : Bool × Nat × List Int32) : Int32 := if r.1 = true then (if r.2.1 < n then nI r.2.1 else -1) else nI r.2.1
theorem iw_d {v : Int32} : iw v 48 57 = true ↔ ¬ v < 48 ∧ ¬ 57 < v := by
  unfold iw
  rw [Bool.and_eq_true, decide_eq_true_eq, decide_eq_true_eq, Int32.not_lt, Int32.not_lt]
theorem s_isDigit (lY : Lay S Y) (v : Int32) : Ev E m_la_isDigit 0 [(0, .int v)] [] Y (0, 0) (gp_q (some (.int (if iw v 48 57 = true then 1 else 0))) Y) := by
  refine b_la_isDigit_0 lY ⟨fun c => ⟨?_, rfl⟩, fun c => ⟨fun c2 => ⟨?_, rfl⟩, fun c2 => ⟨?_, rfl⟩⟩⟩
  · rw [if_neg (fun z => (iw_d.mp z).1 c)]
  · rw [if_neg (fun z => (iw_d.mp z).2 c2)]
  · rw [if_pos (iw_d.mpr ⟨c, c2⟩)]
theorem s_end {T : Nat → Int32} {n : Nat} (lY : Lay S Y) (hn : n ≤ 60) (e0 : gI Y 40 0 = nI n) (eT : ∀ k, gI Y 41 k = T k) {m p : Nat} (hm : m ≤ 4) (hp : p ≤ n) : Ev E m_la_endOfDigits 0 [(0, .ref 40), (1, .int (nI p)), (2, .int (nI m))] [] Y (0, 0) (gp_q (some (.int (nI (dE T n m p)))) Y) := by
  have go : ∀ r e, p ≤ e → e ≤ n → e - p + r = m → Ev E m_la_endOfDigits 2 [(0, .ref 40), (1, .int (nI p)), (2, .int (nI m)), (3, .int (nI e))] [] Y (0, 0) (gp_q (some (.int (nI (dE T n r e)))) Y) := by
    intro r
    induction r with
    | zero =>
      intro e h1 h2 h3
      refine b_la_endOfDigits_2 lY ⟨fun _ => ⟨rfl, rfl⟩, fun _ => ?_⟩
      rw [pk_sub h1, nI_leI (by omega) (by omega)]
      exact ⟨fun _ => ⟨rfl, rfl⟩, fun z => absurd (by omega) z⟩
    | succ r ih =>
      intro e h1 h2 h3
      refine b_la_endOfDigits_2 lY ?_
      rw [e0, pk_sub h1, nI_leI (by omega) (by omega), nI_leI (by omega) (by omega), nI_c (k := e) (by omega), eT]
      refine ⟨fun z => ⟨?_, rfl⟩, fun z => ⟨fun z2 => absurd z2 (by omega), fun _ => ⟨vin (by omega) (by omega), wh_i (s_isDigit lY (T e)) lY ?_⟩⟩⟩
      · have : dE T n (r + 1) e = e := if_neg (fun y => by omega)
        rw [this]
      · by_cases q : iw (T e) 48 57 = true
        · have : dE T n (r + 1) e = dE T n r (e + 1) := if_pos ⟨by omega, q⟩
          rw [if_pos q, this, nI_s]
          exact ⟨fun y => absurd y (by decide), fun _ => ih (e + 1) (by omega) (by omega) (by omega)⟩
        · have : dE T n (r + 1) e = e := if_neg (fun y => q y.2)
          rw [if_neg q, this]
          exact ⟨fun _ => ⟨rfl, rfl⟩, fun y => absurd rfl y⟩
  exact b_la_endOfDigits_0 lY (go m p (Nat.le_refl _) hp (by omega))
theorem s_val {T : Nat → Int32} (lY : Lay S Y) (eT : ∀ k, gI Y 41 k = T k) {p e : Nat} (hp : p ≤ e) (he : e ≤ 60) : Ev E m_la_valueOf 0 [(0, .ref 40), (1, .int (nI p)), (2, .int (nI e))] [] Y (0, 0) (gp_q (some (.int (dW T (e - p) p 0))) Y) := by
  have go : ∀ k q (v : Int32), k + q = e → Ev E m_la_valueOf 5 [(0, .ref 40), (1, .int (nI p)), (2, .int (nI e)), (3, .int v), (4, .int (nI q))] [] Y (0, 0) (gp_q (some (.int (dW T k q v))) Y) := by
    intro k
    induction k with
    | zero =>
      intro q v h
      exact b_la_valueOf_5 lY ⟨fun _ => ⟨rfl, rfl⟩, fun z => absurd (nI_gee (by omega) (by omega)) z⟩
    | succ k ih =>
      intro q v h
      refine b_la_valueOf_5 lY ⟨fun z => absurd z (nI_nge (by omega) (by omega)), fun _ => ⟨vin (by omega) (by omega), ?_⟩⟩
      rw [nI_c (k := q) (by omega), eT, nI_s]
      exact ih (q + 1) _ (by omega)
  exact b_la_valueOf_0 lY (go (e - p) p 0 (by omega))
theorem mt_c (h : Inv N S X) {i : Nat} (hi : i < 2) : ∀ (d f q : Nat) (ns : List Int32) (Y : gp_H), d + f = ln i → q ≤ N 14 → ns.length = dc i f → Lay S Y → (∀ a k, a ≠ 47 → gI Y a k = gI X a k) → (∀ j, j < ns.length → gI Y 47 j = ns.getD j 0) → Ev E m_la_match 7 [(0, .ref 40), (1, .float (sF i)), (2, .int (nI q)), (3, .int (nI ns.length)), (4, .int (nI f))] [] Y (0, 0) (fun r Y' => r = some (.int (mtR (N 14) (mt i (gI X 102) (N 14) d f q ns))) ∧ Lay S Y' ∧ (∀ a k, a ≠ 47 → gI Y' a k = gI X a k) ∧ ∀ j, j < (mt i (gI X 102) (N 14) d f q ns).2.2.length → gI Y' 47 j = (mt i (gI X 102) (N 14) d f q ns).2.2.getD j 0) := by
  obtain ⟨⟨k1, k2, k3⟩, q1⟩ := h.tap
  intro d
  induction d with
  | zero =>
    intro f q ns Y e hq hn lY fY nY
    obtain rfl : f = ln i := by omega
    refine b_la_match_7 lY hi (sF_n hi) (wh_i (s_len hi) lY ⟨fun _ => ?_, fun z => absurd (Int32.le_refl _) z⟩)
    rw [fY 40 0 (by decide), k1, nI_leI (by omega) (by omega)]
    refine ⟨fun z => ⟨?_, lY, fY, nY⟩, fun z => ⟨?_, lY, fY, nY⟩⟩
    · unfold mtR mt; rw [if_pos rfl, if_neg (by show ¬ q < N 14; omega)]
    · unfold mtR mt; rw [if_pos rfl, if_pos (by show q < N 14; omega)]
  | succ d ih =>
    intro f q ns Y e hq hn lY fY nY
    have hf : f < ln i := by omega
    have l25 := ln_le hi
    obtain ⟨t1, t2⟩ := tab i hi f hf
    have e0 : gI Y 40 0 = nI (N 14) := (fY 40 0 (by decide)).trans k1
    have eT : ∀ k, gI Y 41 k = gI X 102 k := fun k => (fY 41 k (by decide)).trans (q1 k).1
    refine b_la_match_7 lY hi (sF_n hi) (wh_i (s_len hi) lY ⟨fun z => absurd z (nI_nge hf (by omega)), fun _ => wh_i (s_chr hi hf) lY (wh_i (s_isDigit lY (sg i f)) lY ?_)⟩)
    cases nf : nd i f with
    | true =>
      have nf' : iw (sg i f) 48 57 = true := nf
      obtain ⟨u1, u2, u3, -⟩ := t1 nf
      rw [if_pos nf', u1]
      refine ⟨fun z => absurd z (by decide), fun _ => wh_i (s_end (T := gI X 102) lY k3 e0 eT u3 hq) lY ?_⟩
      have dl := dE_le (gI X 102) (N 14) (mo i f) q hq
      rw [nI_eq (by omega) (by omega)]
      refine ⟨fun z => ⟨fun z2 => absurd z2 (nI_nge (b := 3) (by omega) (by decide)), fun _ => wh_i (s_val (T := gI X 102) lY eT dl.1 (by omega)) lY ⟨vin (by omega) (by omega), b_la_match_73 (ly_sI lY) hi (sF_n hi) ?_⟩⟩, fun z => ?_⟩
      · have em : mt i (gI X 102) (N 14) (d + 1) f q ns = mt i (gI X 102) (N 14) d (f + 1) (dE (gI X 102) (N 14) (mo i f) q) (ns ++ [dW (gI X 102) (dE (gI X 102) (N 14) (mo i f) q - q) q 0]) := by
          show (if nd i f = true then (if dE (gI X 102) (N 14) (mo i f) q = q then _ else _) else _) = _
          rw [if_pos nf, if_neg z]
        rw [em, nI_c (k := ns.length) (by omega), nI_s, nI_s]
        have ll : (ns ++ [dW (gI X 102) (dE (gI X 102) (N 14) (mo i f) q - q) q 0]).length = ns.length + 1 := by simp
        have := ih (f + 1) (dE (gI X 102) (N 14) (mo i f) q) (ns ++ [dW (gI X 102) (dE (gI X 102) (N 14) (mo i f) q - q) q 0]) (gp_sI Y 47 ns.length (dW (gI X 102) (dE (gI X 102) (N 14) (mo i f) q - q) q 0)) (by omega) dl.2 (by
          rw [ll, hn]
          show _ = cn (nd i) f + (if nd i f = true then 1 else 0)
          rw [if_pos nf]; rfl) (ly_sI lY) (fun a k ha => (if_neg (fun y => ha y.1)).trans (fY a k ha)) (fun j hj => by
          rw [ll] at hj
          show (if 47 = 47 ∧ j = ns.length then dW (gI X 102) (dE (gI X 102) (N 14) (mo i f) q - q) q 0 else gI Y 47 j) = _
          by_cases w : j = ns.length
          · rw [if_pos ⟨rfl, w⟩, w]; simp
          · rw [if_neg (fun y => w y.2), nY j (by omega)]
            simp only [List.getD_eq_getElem?_getD, List.getElem?_append_left (show j < ns.length by omega)])
        rw [ll] at this
        exact this
      · have em : mt i (gI X 102) (N 14) (d + 1) f q ns = (false, q, ns) := by
          show (if nd i f = true then (if dE (gI X 102) (N 14) (mo i f) q = q then _ else _) else _) = _
          rw [if_pos nf, if_pos z]
        rw [em]
        exact ⟨rfl, lY, fY, nY⟩
    | false =>
      have nf' : ¬ iw (sg i f) 48 57 = true := fun y => by
        have y' : nd i f = true := y
        rw [nf] at y'; exact absurd y' (by decide)
      have nf2 : ¬ nd i f = true := fun y => nf' y
      rw [if_neg nf', e0, nI_leI (by omega) (by omega), nI_c (k := q) (by omega), eT, nI_s, nI_s]
      have no : ¬ (q < N 14 ∧ gI X 102 q = sg i f) → mt i (gI X 102) (N 14) (d + 1) f q ns = (false, q, ns) := fun z => by
        show (if nd i f = true then _ else if q < N 14 ∧ gI X 102 q = sg i f then _ else _) = _
        rw [if_neg nf2, if_neg z]
      refine ⟨fun _ => ⟨fun z => ?_, fun z => ⟨vin (by omega) (by omega), fun z2 => ?_, fun z2 => ?_⟩⟩, fun y => absurd rfl y⟩
      · rw [no (fun y => by omega)]
        exact ⟨rfl, lY, fY, nY⟩
      · have em : mt i (gI X 102) (N 14) (d + 1) f q ns = mt i (gI X 102) (N 14) d (f + 1) (q + 1) ns := by
          show (if nd i f = true then _ else if q < N 14 ∧ gI X 102 q = sg i f then _ else _) = _
          rw [if_neg nf2, if_pos ⟨by omega, z2⟩]
        rw [em]
        exact ih (f + 1) (q + 1) ns Y (by omega) (by omega) (by
          rw [hn]
          show _ = cn (nd i) f + (if nd i f = true then 1 else 0)
          rw [if_neg nf2]; rfl) lY fY nY
      · rw [no (fun y => z2 y.2)]
        exact ⟨rfl, lY, fY, nY⟩
end LAW
