section CPY
variable {E : gp_E} {N : Nat → Nat} {S : gp_S} {X Y : gp_H}
theorem nn_i {x : Int32} : ¬ x < 0 ↔ 0 ≤ x.toInt := by
  rw [Int32.lt_iff_toInt_lt]
  exact Int.not_lt
theorem nn_b {x : Int32} (h : 0 ≤ x.toInt) : x = nI x.toInt.toNat := Int32.toInt_inj.mp (by
  have := x.toInt_lt
  rw [nI_toInt (by omega)]
  omega)
theorem nn_s {m : Nat} {x : Int32} (hm : m ≤ 40) (hx : 0 ≤ x.toInt) : (nI m - x).toInt = (m : Int) - x.toInt := by
  have := x.toInt_lt
  rw [Int32.toInt_sub, nI_toInt (by omega)]
  exact Int.bmod_eq_of_le (by omega) (by omega)
def Wn (m : Nat) (x y : Int32) : Prop := ∃ i n, i + n ≤ m ∧ x = nI i ∧ y = nI n
theorem wn_i {m : Nat} {x y : Int32} (hm : m ≤ 40) : Wn m x y ↔ 0 ≤ x.toInt ∧ 0 ≤ y.toInt ∧ x.toInt + y.toInt ≤ m := by
  refine ⟨fun ⟨i, n, h, e1, e2⟩ => ?_, fun ⟨h1, h2, h3⟩ => ⟨x.toInt.toNat, y.toInt.toNat, by omega, nn_b h1, nn_b h2⟩⟩
  rw [e1, e2, nI_toInt (by omega), nI_toInt (by omega)]
  omega
theorem wn_c {m : Nat} {x y : Int32} (hm : m ≤ 40) : Wn m x y ↔ ¬ x < 0 ∧ ¬ y < 0 ∧ ¬ nI m < y ∧ ¬ (nI m - y) < x := by
  rw [wn_i hm, nn_i, nn_i]
  refine ⟨fun ⟨h1, h2, h3⟩ => ⟨h1, h2, ?_, ?_⟩, fun ⟨h1, h2, h3, h4⟩ => ⟨h1, h2, ?_⟩⟩
  · rw [Int32.lt_iff_toInt_lt, nI_toInt (by omega)]; omega
  · rw [Int32.lt_iff_toInt_lt, nn_s hm h2]; omega
  · rw [Int32.lt_iff_toInt_lt, nn_s hm h2] at h4; omega
theorem wn_r {m : Nat} {x y : Int32} (hm : m ≤ 40) : Wn m x y ↔ ¬ x < 0 ∧ ¬ y < 0 ∧ ¬ (nI m - x) < y := by
  rw [wn_i hm, nn_i, nn_i]
  refine ⟨fun ⟨h1, h2, h3⟩ => ⟨h1, h2, ?_⟩, fun ⟨h1, h2, h4⟩ => ⟨h1, h2, ?_⟩⟩
  · rw [Int32.lt_iff_toInt_lt, nn_s hm h1]; omega
  · rw [Int32.lt_iff_toInt_lt, nn_s hm h1] at h4; omega
theorem s_hasRun (hX : Lay S X) {s m : Nat} (hs : s < 3) (hm : m ≤ 40) (e : gI X 50 s = nI m) {x y V : Int32} (h1 : Wn m x y → V = 1) (h0 : ¬ Wn m x y → V = 0) : Ev E m_sh_hasRun 0 [(0, .ref 48), (1, .int (nI s)), (2, .int x), (3, .int y)] [] X (0, 0) (gp_q (some (.int V)) X) := by
  refine b_sh_hasRun_0 hX ?_
  rw [nI_c (by omega), e]
  rw [wn_c hm] at h1 h0
  refine ⟨fun c => ⟨by rw [h0 (fun z => z.1 c)], rfl⟩, fun c1 => ⟨fun c => ⟨by rw [h0 (fun z => z.2.1 c)], rfl⟩, fun c2 => ⟨vin hs (by omega), fun c => ⟨by rw [h0 (fun z => z.2.2.1 c)], rfl⟩, fun c3 => ⟨fun c => ⟨by rw [h0 (fun z => z.2.2.2 c)], rfl⟩, fun c4 => ⟨by rw [h1 ⟨c1, c2, c3, c4⟩], rfl⟩⟩⟩⟩⟩
theorem cp_inv (h : Inv N S X) {Z : gp_H} (lZ : Lay S Z) {s o i j n : Nat} (hs : s < 3) (ho : o < 3) (hin : i + n ≤ 40) (hjn : j + n ≤ 40) (hc : gI X 104 s ≠ -1) (rd : ∀ a k, gI Z a k = if a = 106 ∧ 40 * o + j ≤ k ∧ k < 40 * o + j + n then gI X 106 (40 * s + i + (k - (40 * o + j))) else if a = 113 ∧ k < n then gI X 106 (40 * s + i + k) else if a = 52 + o ∧ j ≤ k ∧ k < j + n then gI X (52 + s) (i + (k - j)) else gI X a k) : ∃ N, Inv N S Z := by
  refine iv_y [(52, 0), (53, 0), (54, 0), (106, 0), (113, 0)] false N h lZ (fun a k hf _ => ?_) (fun hx => ⟨hx.1, (hx.2.1 rfl), (hx.2.2.1 rfl), (hx.2.2.2.1 rfl), (hx.2.2.2.2.1 rfl), (hx.2.2.2.2.2.1 rfl), (hx.2.2.2.2.2.2.1 rfl), (hx.2.2.2.2.2.2.2.1 rfl), (hx.2.2.2.2.2.2.2.2.1 rfl), (hx.2.2.2.2.2.2.2.2.2.1 rfl), (hx.2.2.2.2.2.2.2.2.2.2.1 rfl), (hx.2.2.2.2.2.2.2.2.2.2.2.1 rfl), (hx.2.2.2.2.2.2.2.2.2.2.2.2.1 rfl), (hx.2.2.2.2.2.2.2.2.2.2.2.2.2.1 rfl), (hx.2.2.2.2.2.2.2.2.2.2.2.2.2.2.1 rfl), (hx.2.2.2.2.2.2.2.2.2.2.2.2.2.2.2.1 rfl), (hx.2.2.2.2.2.2.2.2.2.2.2.2.2.2.2.2.1 rfl), (hx.2.2.2.2.2.2.2.2.2.2.2.2.2.2.2.2.2.1 rfl), (hx.2.2.2.2.2.2.2.2.2.2.2.2.2.2.2.2.2.2.1 rfl), (hx.2.2.2.2.2.2.2.2.2.2.2.2.2.2.2.2.2.2.2.1 rfl), ?_, (hx.2.2.2.2.2.2.2.2.2.2.2.2.2.2.2.2.2.2.2.2.2 rfl)⟩)
  · have d1 : a ≠ 52 := off_ne hf (52, 0)
    have d2 : a ≠ 53 := off_ne hf (53, 0)
    have d3 : a ≠ 54 := off_ne hf (54, 0)
    have d4 : a ≠ 106 := off_ne hf (106, 0)
    have d5 : a ≠ 113 := off_ne hf (113, 0)
    rw [rd, if_neg (by omega), if_neg (by omega), if_neg (by omega)]
  · refine I_she_it h.she (fun a ha k => by rw [rd, if_neg (by omega), if_neg (by omega), if_neg (by omega)]) (fun t ht c i' hi' => ?_)
    rw [rd (52 + t) i', if_neg (by omega), if_neg (by omega), rd 106 (40 * t + i')]
    by_cases z : t = o ∧ j ≤ i' ∧ i' < j + n
    · rw [if_pos (show 52 + t = 52 + o ∧ j ≤ i' ∧ i' < j + n by omega), if_pos (show 106 = 106 ∧ 40 * o + j ≤ 40 * t + i' ∧ 40 * t + i' < 40 * o + j + n by omega), ((h.she s hs).2.2 hc).2.2 (i + (i' - j)) (by omega)]
      congr 1
      omega
    · rw [if_neg (show ¬ (52 + t = 52 + o ∧ j ≤ i' ∧ i' < j + n) by omega), if_neg (show ¬ (106 = 106 ∧ 40 * o + j ≤ 40 * t + i' ∧ 40 * t + i' < 40 * o + j + n) by omega), if_neg (show ¬ (106 = 113 ∧ 40 * t + i' < n) by omega), if_neg (show ¬ (106 = 52 + o ∧ j ≤ 40 * t + i' ∧ 40 * t + i' < j + n) by omega)]
      exact ((h.she t ht).2.2 c).2.2 i' hi'
end CPY
theorem p_copy {E : gp_E} {N : Nat → Nat} {S : gp_S} {X : gp_H} (h : Inv N S X) (x1 x2 x3 x4 x5 : Int32) : Ev E m_ga_copy 0 [(0, .ref 0), (1, .int x1), (2, .int x2), (3, .int x3), (4, .int x4), (5, .int x5)] [] X (0, 0) (gp_two E m_mo_copy [(0, .ref 55), (1, .int x1), (2, .int x2), (3, .int x3), (4, .int x4), (5, .int x5)]) := by
  have hL := h.lay
  have q := h.she
  have R := fun {Y : gp_H} (lY : Lay S Y) (gY : Rf X Y) {Q} => show _ from by
    have := b_mo_copy_0 (E := E) (x1 := x1) (x2 := x2) (x3 := x3) (x4 := x4) (x5 := x5) (Q := Q) lY
    rw [gY 104 _ rfl, gY 104 _ rfl, gY 105 _ rfl, gY 105 _ rfl] at this
    exact this
  refine b_ga_copy_0 hL ⟨fun c1 => ⟨_, S, rfl, hL, R hL (rf_0 X) ⟨fun _ => ⟨rfl, N, h⟩, fun z => bnf c1 z⟩⟩, fun c1 => ⟨fun c3 => ?_, fun c3 => ⟨_, S, rfl, hL, R hL (rf_0 X) ⟨fun z => bne c1 z, fun _ => ⟨fun z => bnf c3 z, fun _ => ⟨rfl, N, h⟩⟩⟩⟩⟩⟩
  obtain ⟨s, hs, rfl⟩ := iw_lt (n := 2) 2 (by decide) c1
  obtain ⟨o, ho, rfl⟩ := iw_lt (n := 2) 2 (by decide) c3
  have hs3 : s < 3 := by omega
  have ho3 : o < 3 := by omega
  have vs : vp_in (nI s) 3 := vin (by omega) (by omega)
  have vo : vp_in (nI o) 3 := vin (by omega) (by omega)
  obtain ⟨e1, e2, e3⟩ := q s hs3
  obtain ⟨f1, f2, f3⟩ := q o ho3
  have cs : Int32.toNatClampNeg (nI s) = s := nI_c (by omega)
  have co : Int32.toNatClampNeg (nI o) = o := nI_c (by omega)
  rw [cs, co] at R
  refine wh_i (s_isMissing hL hs3) hL ?_
  rw [e1, mis0]
  refine ⟨fun c2 => ⟨_, S, rfl, hL, R hL (rf_0 X) ⟨fun z => bne c1 z, fun _ => ⟨fun _ => ⟨vs, fun _ => ⟨rfl, N, h⟩, fun z => absurd z c2⟩, fun z => bne c3 z⟩⟩⟩, fun c2 => wh_i (s_isMissing hL ho3) hL ?_⟩
  rw [f1, mis0]
  refine ⟨fun c4 => ⟨vs, vo, ?_⟩, fun c4 => ⟨_, S, rfl, hL, R hL (rf_0 X) ⟨fun z => bne c1 z, fun _ => ⟨fun _ => ⟨vs, fun z => absurd z c2, fun _ => ⟨vo, fun z => absurd z c4, fun _ => ⟨rfl, N, h⟩⟩⟩, fun z => bne c3 z⟩⟩⟩⟩
  rw [cs, co, e1, f1]
  refine ⟨fun c5 => ?_, fun c5 => ⟨_, S, rfl, hL, R hL (rf_0 X) ⟨fun z => bne c1 z, fun _ => ⟨fun _ => ⟨vs, fun z => absurd z c2, fun _ => ⟨vo, fun _ => ⟨fun z => absurd z c5, fun _ => ⟨rfl, N, h⟩⟩, fun z => absurd z c4⟩⟩, fun z => bne c3 z⟩⟩⟩⟩
  obtain ⟨e4, ⟨m, hm, e5⟩, e6⟩ := e3 c2
  obtain ⟨f4, ⟨m', hm', f5⟩, f6⟩ := f3 c4
  rw [e5, f5] at R
  have R2 : ∀ (Y : gp_H) (Q : Option Value → gp_H → Prop), Lay S Y → Rf X Y → _ → Ev E m_mo_copy 0 [(0, .ref 55), (1, .int (nI s)), (2, .int x2), (3, .int (nI o)), (4, .int x4), (5, .int x5)] [] Y (0, 0) Q := fun Y Q lY gY w => R lY gY ⟨fun z => bne c1 z, fun _ => ⟨fun _ => ⟨vs, fun z => absurd z c2, fun _ => ⟨vo, fun _ => ⟨fun _ => w, fun z => absurd c5 z⟩, fun z => absurd z c4⟩⟩, fun z => bne c3 z⟩⟩
  have no : ¬ (Wn m x2 x5 ∧ Wn m' x4 x5) → gp_two E m_mo_copy [(0, .ref 55), (1, .int (nI s)), (2, .int x2), (3, .int (nI o)), (4, .int x4), (5, .int x5)] (some (.int (-12))) X := fun hn => ⟨_, S, rfl, hL, R2 X _ hL (rf_0 X) ⟨fun _ => ⟨rfl, N, h⟩, fun a => ⟨fun _ => ⟨rfl, N, h⟩, fun b => ⟨fun _ => ⟨rfl, N, h⟩, fun c => ⟨fun _ => ⟨rfl, N, h⟩, fun d => ⟨fun e => absurd ⟨(wn_r hm).mpr ⟨b, a, d⟩, (wn_r hm').mpr ⟨c, a, Int32.not_lt.mpr e⟩⟩ hn, fun _ => ⟨rfl, N, h⟩⟩⟩⟩⟩⟩⟩
  by_cases w1 : Wn m x2 x5
  · refine wh_i (s_hasRun hL hs3 hm (e4.trans e5) (V := 1) (fun _ => rfl) (fun z => absurd w1 z)) hL ⟨fun z => absurd z (by decide), fun _ => ?_⟩
    by_cases w2 : Wn m' x4 x5
    · refine wh_i (s_hasRun hL ho3 hm' (f4.trans f5) (V := 1) (fun _ => rfl) (fun z => absurd w2 z)) hL ⟨fun _ => ⟨vs, ?_⟩, fun z => absurd z (by decide)⟩
      obtain ⟨k1, k2, k3⟩ := (wn_r hm).mp w1
      obtain ⟨k4, -, k5⟩ := (wn_r hm').mp w2
      obtain ⟨i, n, hin, rfl, rfl⟩ := w1
      obtain ⟨j, n', hjn, rfl, en⟩ := w2
      obtain rfl : n = n' := (nI_eq (by omega) (by omega)).mp en
      obtain ⟨r1, r2⟩ := sh_ref hL hs3
      obtain ⟨t1, t2⟩ := sh_ref hL ho3
      rw [nI_c (k := i) (by omega), nI_c (k := j) (by omega), nI_c (k := n) (by omega)]
      refine ⟨_, r1, r2, vo, _, t1, t2, ⟨k1, k4, k2, by omega, by omega⟩, _, S, rfl, ly_wI hL, R2 _ _ (ly_wI hL) (fun a k ha => if_neg (fun z => by have := isR_lt ha; have := z.1; omega)) ⟨fun z => absurd z k2, fun _ => ⟨fun z => absurd z k1, fun _ => ⟨fun z => absurd z k4, fun _ => ⟨fun z => absurd z k3, fun _ => ⟨fun _ => ?_, fun z => absurd (Int32.not_lt.mp k5) z⟩⟩⟩⟩⟩⟩
      have y0 : ∀ a k, gI (gp_cp X (52 + s) (52 + o) i j n) a k = if a = 52 + o ∧ j ≤ k ∧ k < j + n then gI X (52 + s) (i + (k - j)) else gI X a k := fun _ _ => rfl
      have l2 : ∀ d t (Y : gp_H), d + t = n → Lay S Y → (∀ a k, gI Y a k = if a = 106 ∧ 40 * o + j ≤ k ∧ k < 40 * o + j + t then gI X 106 (40 * s + i + (k - (40 * o + j))) else if a = 113 ∧ k < n then gI X 106 (40 * s + i + k) else if a = 52 + o ∧ j ≤ k ∧ k < j + n then gI X (52 + s) (i + (k - j)) else gI X a k) → Ev E m_mo_copy 142 [(0, .ref 55), (1, .int (nI s)), (2, .int (nI i)), (3, .int (nI o)), (4, .int (nI j)), (5, .int (nI n)), (6, .int (nI t))] [] Y (0, 0) (fun r2 X2 => r2 = some (.int (nI n)) ∧ ∃ N, Inv N S X2) := by
        intro d
        induction d with
        | zero =>
          intro t Y e l y
          obtain rfl : t = n := by omega
          exact b_mo_copy_142 l ⟨fun _ => ⟨rfl, cp_inv h l hs3 ho3 (by omega) (by omega) c2 y⟩, fun z => absurd (Int32.le_refl _) z⟩
        | succ d ih =>
          intro t Y e l y
          refine b_mo_copy_142 l ⟨fun z => absurd z (nI_nge (show t < n by omega) (by omega)), fun _ => ⟨vin (by omega) (by omega), ?_⟩⟩
          rw [ix40, nI_add, nI_c (k := t) (by omega), nI_c (k := 40 * o + j + t) (by omega), nI_s]
          refine ⟨vin (by omega) (by omega), ih (t + 1) _ (by omega) (ly_sI l) (fun a k => ?_)⟩
          show (if a = 106 ∧ k = 40 * o + j + t then gI Y 113 t else gI Y a k) = _
          by_cases z : a = 106 ∧ k = 40 * o + j + t
          · rw [if_pos z, y 113 t, if_neg (by omega), if_pos (by omega), if_pos (by omega), z.2]
            congr 1
            omega
          · rw [if_neg z, y a k]
            by_cases z2 : a = 106 ∧ 40 * o + j ≤ k ∧ k < 40 * o + j + t
            · rw [if_pos z2, if_pos (by omega)]
            · rw [if_neg z2, if_neg (show ¬ (a = 106 ∧ 40 * o + j ≤ k ∧ k < 40 * o + j + (t + 1)) by omega)]
      have l1 : ∀ d t (Y : gp_H), d + t = n → Lay S Y → (∀ a k, gI Y a k = if a = 113 ∧ k < t then gI X 106 (40 * s + i + k) else if a = 52 + o ∧ j ≤ k ∧ k < j + n then gI X (52 + s) (i + (k - j)) else gI X a k) → Ev E m_mo_copy 105 [(0, .ref 55), (1, .int (nI s)), (2, .int (nI i)), (3, .int (nI o)), (4, .int (nI j)), (5, .int (nI n)), (6, .int (nI t))] [] Y (0, 0) (fun r2 X2 => r2 = some (.int (nI n)) ∧ ∃ N, Inv N S X2) := by
        intro d
        induction d with
        | zero =>
          intro t Y e l y
          obtain rfl : t = n := by omega
          refine b_mo_copy_105 l ⟨fun _ => l2 t 0 Y rfl l (fun a k => ?_), fun z => absurd (Int32.le_refl _) z⟩
          rw [y a k, if_neg (show ¬ (a = 106 ∧ 40 * o + j ≤ k ∧ k < 40 * o + j + 0) by omega)]
        | succ d ih =>
          intro t Y e l y
          refine b_mo_copy_105 l ⟨fun z => absurd z (nI_nge (show t < n by omega) (by omega)), fun _ => ?_⟩
          rw [ix40, nI_add, nI_c (k := t) (by omega), nI_c (k := 40 * s + i + t) (by omega), nI_s]
          refine ⟨vin (by omega) (by omega), vin (by omega) (by omega), ih (t + 1) _ (by omega) (ly_sI l) (fun a k => ?_)⟩
          show (if a = 113 ∧ k = t then gI Y 106 (40 * s + i + t) else gI Y a k) = _
          by_cases z : a = 113 ∧ k = t
          · rw [if_pos z, y 106, if_neg (by omega), if_neg (by omega), if_pos (by omega), z.2]
          · rw [if_neg z, y a k]
            by_cases z2 : a = 113 ∧ k < t
            · rw [if_pos z2, if_pos (by omega)]
            · rw [if_neg z2, if_neg (show ¬ (a = 113 ∧ k < t + 1) by omega)]
      exact l1 n 0 _ rfl (ly_wI hL) (fun a k => by rw [if_neg (show ¬ (a = 113 ∧ k < 0) by omega), y0])
    · exact wh_i (s_hasRun hL ho3 hm' (f4.trans f5) (V := 0) (fun z => absurd z w2) (fun _ => rfl)) hL ⟨fun z => absurd rfl z, fun _ => no (fun z => w2 z.2)⟩
  · exact wh_i (s_hasRun hL hs3 hm (e4.trans e5) (V := 0) (fun z => absurd z w1) (fun _ => rfl)) hL ⟨fun _ => no (fun z => w1 z.1), fun z => absurd rfl z⟩
