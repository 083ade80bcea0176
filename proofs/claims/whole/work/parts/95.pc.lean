theorem sm_up {f : Nat → Int32} {j : Nat} {v : Int32} (h0 : f j = 0) : ∀ n, j < n → sm (fun i => if i = j then v else f i) n = sm f n + v
  | 0, h => absurd h (Nat.not_lt_zero _)
  | n + 1, h => by
    show sm (fun i => if i = j then v else f i) n + (if n = j then v else f n) = sm f n + f n + v
    by_cases z : n = j
    · subst z
      rw [if_pos rfl, sm_congr (g := f) (fun k hk => if_neg (by omega)), h0, Int32.add_zero]
    · rw [if_neg z, sm_up h0 n (by omega), Int32.add_assoc, Int32.add_comm v, Int32.add_assoc]
theorem I_hom_up {N : Nat → Nat} {S : gp_S} {X X' : gp_H} {j : Nat} (h : I_hom N S X) (s1 : gI X' 0 6 = gI X 0 6) (s2 : gI X' 55 19 = gI X 55 19) (rk : ∀ r, 70 ≤ r → r ≤ 73 → ∀ k, gI X' r k = gI X r k) (rn : ∀ r, 74 ≤ r → r ≤ 78 → ∀ k, k ≠ j → gI X' r k = gI X r k) (hk : ∀ i, i < S.1 → ∀ k, k ≤ 2 → gI X' (S.2.2.1 i) k = gI X (S.2.2.1 i) k) (hn : ∀ i, i < S.1 → i ≠ j → ∀ k, gI X' (S.2.2.1 i) k = gI X (S.2.2.1 i) k)
  (e4 : gI X' (S.2.2.1 j) 4 = gI X' 74 j) (e5 : gI X' (S.2.2.1 j) 5 = gI X' 75 j) (e6 : gI X' (S.2.2.1 j) 6 = gI X' 76 j) (e7 : gI X' (S.2.2.1 j) 7 = gI X' 77 j) (e8 : gI X' (S.2.2.1 j) 8 = gI X' 78 j) (c1 : gI X' 74 j = 0 ∨ gI X' 74 j = 1 ∨ gI X' 74 j = 2) (c2 : is01 (gI X' 78 j)) (c3 : gI X' 78 j = 1 → gI X' 74 j = 1) : I_hom N S X' := by
  unfold I_hom at h ⊢
  rw [s1, s2]
  refine ⟨h.1, fun i hi => ?_⟩
  have b := h.2 i hi
  rw [hk i hi 0 (by omega), hk i hi 1 (by omega), hk i hi 2 (by omega), rk 70 (by omega) (by omega), rk 71 (by omega) (by omega), rk 72 (by omega) (by omega), rk 73 (by omega) (by omega)]
  by_cases z : i = j
  · subst z
    exact ⟨⟨b.1.1, b.1.2.1, b.1.2.2.1, b.1.2.2.2.1, e4, e5, e6, e7, e8⟩, b.2.1, c1, c2, c3⟩
  · rw [hn i hi z 4, hn i hi z 5, hn i hi z 6, hn i hi z 7, hn i hi z 8, rn 74 (by omega) (by omega) i z, rn 75 (by omega) (by omega) i z, rn 76 (by omega) (by omega) i z, rn 77 (by omega) (by omega) i z, rn 78 (by omega) (by omega) i z]
    exact b
theorem hm_ne {S : gp_S} {X : gp_H} (h : Lay S X) {i j : Nat} (hi : i < S.1) (hj : j < S.1) (n : i ≠ j) : S.2.2.1 i ≠ S.2.2.1 j := fun e => n (h.2.2.2.2.2.2.1 i j hi hj e)
theorem hm_big {S : gp_S} {X : gp_H} (h : Lay S X) {j : Nat} (hj : j < S.1) : 114 ≤ S.2.2.1 j := (h.2.2.2.2.1 j hj).2.2.1
theorem p_fault {E : gp_E} {N : Nat → Nat} {S : gp_S} {X : gp_H} (h : Inv N S X) (x1 : Int32) : Ev E m_ga_fault 0 [(0, .ref 0), (1, .int x1)] [] X (0, 0) (gp_two E m_mo_fault [(0, .ref 55), (1, .int x1)]) := by
  have hL := h.lay
  obtain ⟨⟨k1, k2⟩, q⟩ := h.hom
  have l := l40 hL
  have R := fun {Y : gp_H} (lY : Lay S Y) (gY : Rf X Y) {Q} => show _ from by
    have := b_mo_fault_0 (E := E) (x1 := x1) (Q := Q) lY
    rw [gY 55 19 rfl, k2, gY 74 _ rfl, gY 78 _ rfl, gY 55 56 rfl] at this
    exact this
  refine b_ga_fault_0 hL (wh_home h (fun j hj e => ?_) (fun c1 => ⟨_, S, rfl, hL, R hL (rf_0 X) ⟨fun z => bnf c1 z, fun _ => ⟨rfl, N, h⟩⟩⟩))
  subst e
  have c1 := iw_of hj (show S.1 ≤ 100000 by omega)
  have vi : vp_in (nI j) 40 := vin (by omega) (by omega)
  have cl : Int32.toNatClampNeg (nI j) = j := nI_c (by omega)
  rw [cl] at R
  obtain ⟨⟨a0, a1, a2, a3, a4, a5, a6, a7, a8⟩, a9, a10, a11, a12⟩ := q j hj
  have hb := hm_big hL hj
  rw [a4, a8]
  refine ⟨fun c => ⟨_, S, rfl, hL, R hL (rf_0 X) ⟨fun _ => ⟨vi, fun _ => ⟨rfl, N, h⟩, fun z => absurd z c⟩, fun z => bne c1 z⟩⟩, fun c => ⟨fun c2 => ?_, fun c2 => ⟨_, S, rfl, hL, R hL (rf_0 X) ⟨fun _ => ⟨vi, fun z => absurd c z, fun _ => ⟨fun z => absurd z c2, fun _ => ⟨rfl, N, h⟩⟩⟩, fun z => bne c1 z⟩⟩⟩⟩
  have up : ∀ a k, gI (gp_sI X (S.2.2.1 j) 8 1) a k = if a = (S.2.2.1 j) ∧ k = 8 then 1 else gI X a k := fun a k => rfl
  have lo : ∀ a k, a < 114 → gI (gp_sI X (S.2.2.1 j) 8 1) a k = gI X a k := fun a k ha => if_neg (fun z => by have := z.1; omega)
  refine wh_i (s_ga_faults (ly_sI hL) ((lo 0 6 (by decide)).trans k1) (fun i => if i = j then 1 else gI X 78 i) (fun i hi => ?_)) (ly_sI hL) ⟨at_sI (hm_at hL hj).2, ?_⟩
  · rw [up]
    show _ = (if i = j then 1 else gI X 78 i) ∧ is01 (if i = j then 1 else gI X 78 i)
    by_cases z : i = j
    · subst z
      rw [if_pos ⟨rfl, rfl⟩, if_pos rfl]
      exact ⟨rfl, Or.inr rfl⟩
    · rw [if_neg (fun y => hm_ne hL hi hj z y.1), if_neg z]
      exact ⟨(q i hi).1.2.2.2.2.2.2.2.2, (q i hi).2.2.2.1⟩
  rw [sm_up c2 S.1 hj, ← h.flt.1]
  have gY : Rf X (gp_sI X (S.2.2.1 j) 8 1) := fun a k ha => lo a k (isR_lt ha).2
  refine ⟨_, S, rfl, ly_sI hL, R (ly_sI hL) gY ⟨fun _ => ⟨vi, fun z => absurd c z, fun _ => ⟨fun _ => ⟨rfl, ?_⟩, fun z => absurd c2 z⟩⟩, fun z => bne c1 z⟩⟩
  refine iv_y [(78, 0), (55, 56)] true N h (ly_sI (ly_sI (ly_sI hL))) (fun a k ho hh => ?_) (fun hx => ⟨hx.1, (hx.2.1 rfl), (hx.2.2.1 rfl), (hx.2.2.2.1 rfl), (hx.2.2.2.2.1 rfl), ?_, ?_, ?_, (hx.2.2.2.2.2.2.2.2.1 rfl), (hx.2.2.2.2.2.2.2.2.2.1 rfl), (hx.2.2.2.2.2.2.2.2.2.2.1 rfl), (hx.2.2.2.2.2.2.2.2.2.2.2.1 rfl), (hx.2.2.2.2.2.2.2.2.2.2.2.2.1 rfl), (hx.2.2.2.2.2.2.2.2.2.2.2.2.2.1 rfl), (hx.2.2.2.2.2.2.2.2.2.2.2.2.2.2.1 rfl), (hx.2.2.2.2.2.2.2.2.2.2.2.2.2.2.2.1 rfl), (hx.2.2.2.2.2.2.2.2.2.2.2.2.2.2.2.2.1 rfl), (hx.2.2.2.2.2.2.2.2.2.2.2.2.2.2.2.2.2.1 rfl), (hx.2.2.2.2.2.2.2.2.2.2.2.2.2.2.2.2.2.2.1 rfl), (hx.2.2.2.2.2.2.2.2.2.2.2.2.2.2.2.2.2.2.2.1 rfl), (hx.2.2.2.2.2.2.2.2.2.2.2.2.2.2.2.2.2.2.2.2.1 rfl), (hx.2.2.2.2.2.2.2.2.2.2.2.2.2.2.2.2.2.2.2.2.2 rfl)⟩)
  · have d1 := off_sl ho (55, 56)
    have d2 := off_ne ho (78, 0)
    have d3 := (hh.resolve_left (by decide)) j hj
    simp only [gI_sI]
    rw [if_neg d1, if_neg (fun z => d2 z.1), if_neg (fun z => d3 z.1)]
  · have rd : ∀ a k, gI (gp_sI (gp_sI (gp_sI X (S.2.2.1 j) 8 1) 78 j 1) 55 56 (gI X 55 56 + 1)) a k = if a = 55 ∧ k = 56 then gI X 55 56 + 1 else if a = 78 ∧ k = j then 1 else if a = (S.2.2.1 j) ∧ k = 8 then 1 else gI X a k := fun a k => rfl
    refine I_hom_up (j := j) h.hom ?_ ?_ (fun r r1 r2 k => ?_) (fun r r1 r2 k hk => ?_) (fun i hi k hk => ?_) (fun i hi hn k => ?_) ?_ ?_ ?_ ?_ ?_ ?_ ?_ ?_
    · rw [rd, if_neg (by omega), if_neg (by omega), if_neg (by omega)]
    · rw [rd, if_neg (by omega), if_neg (by omega), if_neg (by omega)]
    · rw [rd, if_neg (by omega), if_neg (by omega), if_neg (by omega)]
    · rw [rd, if_neg (by omega), if_neg (by omega), if_neg (by omega)]
    · have := hm_big hL hi
      rw [rd, if_neg (by omega), if_neg (by omega), if_neg (by omega)]
    · have := hm_big hL hi
      have ne := hm_ne hL hi hj hn
      rw [rd, if_neg (by omega), if_neg (by omega), if_neg (fun z => ne z.1)]
    · rw [rd, rd, if_neg (by omega), if_neg (by omega), if_neg (by omega), if_neg (by omega), if_neg (by omega), if_neg (by omega)]; exact a4
    · rw [rd, rd, if_neg (by omega), if_neg (by omega), if_neg (by omega), if_neg (by omega), if_neg (by omega), if_neg (by omega)]; exact a5
    · rw [rd, rd, if_neg (by omega), if_neg (by omega), if_neg (by omega), if_neg (by omega), if_neg (by omega), if_neg (by omega)]; exact a6
    · rw [rd, rd, if_neg (by omega), if_neg (by omega), if_neg (by omega), if_neg (by omega), if_neg (by omega), if_neg (by omega)]; exact a7
    · rw [rd, rd, if_neg (by omega), if_neg (by omega), if_pos ⟨rfl, rfl⟩, if_neg (by omega), if_pos ⟨rfl, rfl⟩]
    · rw [rd, if_neg (by omega), if_neg (by omega), if_neg (by omega)]; exact Or.inr (Or.inl c)
    · rw [rd, if_neg (by omega), if_pos ⟨rfl, rfl⟩]; exact Or.inr rfl
    · intro _
      rw [rd, if_neg (by omega), if_neg (by omega), if_neg (by omega)]; exact c
  · have rd : ∀ a k, gI (gp_sI (gp_sI (gp_sI X (S.2.2.1 j) 8 1) 78 j 1) 55 56 (gI X 55 56 + 1)) a k = if a = 55 ∧ k = 56 then gI X 55 56 + 1 else if a = 78 ∧ k = j then 1 else if a = (S.2.2.1 j) ∧ k = 8 then 1 else gI X a k := fun a k => rfl
    have e78 : gI (gp_sI (gp_sI (gp_sI X (S.2.2.1 j) 8 1) 78 j 1) 55 56 (gI X 55 56 + 1)) 78 = fun i => if i = j then 1 else gI X 78 i := funext fun i => by
      rw [rd]
      by_cases z : i = j
      · rw [if_neg (by omega), if_pos ⟨rfl, z⟩, if_pos z]
      · rw [if_neg (by omega), if_neg (fun y => z y.2), if_neg (by omega), if_neg z]
    refine ⟨?_, fun i hi => ?_⟩
    · rw [e78, sm_up c2 S.1 hj, ← h.flt.1]; rfl
    · rw [e78]
      show (if i = j then 1 else gI X 78 i) = 0
      rw [if_neg (by omega)]; exact h.flt.2 i hi
  · have rd : ∀ a k, gI (gp_sI (gp_sI (gp_sI X (S.2.2.1 j) 8 1) 78 j 1) 55 56 (gI X 55 56 + 1)) a k = if a = 55 ∧ k = 56 then gI X 55 56 + 1 else if a = 78 ∧ k = j then 1 else if a = (S.2.2.1 j) ∧ k = 8 then 1 else gI X a k := fun a k => rfl
    refine I_sur_cg rfl ?_ ?_ (fun i hi => funext fun k => ?_) (fun i hi => ?_) h.sur
    · rw [rd, if_neg (by omega), if_neg (by omega), if_neg (by omega)]
    · rw [rd, if_neg (by omega), if_neg (by omega), if_neg (by omega)]
    · rw [rd, if_neg (by omega), if_neg (by omega), if_neg (by omega)]
    · have := hm_big hL hi
      rw [rd, if_neg (by omega), if_neg (by omega), if_neg (by omega)]
theorem cb {X Y : gp_H} {a k : Nat} {v : Int32} (g : Cf X Y) : Cf (gp_sI X a k v) (gp_sI Y a k v) := fun i j hi => by
  show (if i = a ∧ j = k then v else gI Y i j) = (if i = a ∧ j = k then v else gI X i j)
  rw [g i j hi]
theorem rb {X Y : gp_H} {a k : Nat} {v : Int32} (g : Rf X Y) : Rf (gp_sI X a k v) (gp_sI Y a k v) := fun i j hi => by
  show (if i = a ∧ j = k then v else gI Y i j) = (if i = a ∧ j = k then v else gI X i j)
  rw [g i j hi]
theorem cl_ {X Y : gp_H} {a k : Nat} {v : Int32} (g : Cf X Y) (ha : (Nat.blt a 55 || Nat.ble 114 a) = false := by rfl) : Cf (gp_sI X a k v) Y := fun i j hi => by
  show gI Y i j = (if i = a ∧ j = k then v else gI X i j)
  rw [if_neg (fun q => by rw [q.1, ha] at hi; exact absurd hi (by decide)), g i j hi]
theorem rl_ {X Y : gp_H} {a k : Nat} {v : Int32} (g : Rf X Y) (ha : isR a = false := by rfl) : Rf (gp_sI X a k v) Y := fun i j hi => by
  show gI Y i j = (if i = a ∧ j = k then v else gI X i j)
  rw [if_neg (fun q => by rw [q.1, ha] at hi; exact absurd hi (by decide)), g i j hi]
theorem c_tr {X Y Z : gp_H} (g : Cf X Y) (g2 : Cf Y Z) : Cf X Z := fun a k h => (g2 a k h).trans (g a k h)
theorem r_tr {X Y Z : gp_H} (g : Rf X Y) (g2 : Rf Y Z) : Rf X Z := fun a k h => (g2 a k h).trans (g a k h)
/-- a byte more -/
def TJ (X : gp_H) (n : Nat) (b : Int32) : gp_H := gp_sI (gp_sI (gp_sI (gp_sI X 40 0 (nI (n + 1))) 41 n b) 102 n b) 55 64 (nI (n + 1))
def fdZ (x : Int32) : Nat → Nat → gp_H → gp_H
  | 0, _, X => X
  | k + 1, n, X => fdZ x k (n + 1) (TJ X n ((x >>> ((8 * nI k) &&& 31)) &&& 255))
theorem byte_le (x : Int32) : ∃ b, b ≤ 255 ∧ x &&& 255 = nI b := by
  obtain ⟨j, hj, e⟩ := pk_andE x (m := 255) 8 (by decide)
  exact ⟨j, by omega, e⟩
theorem I_tap_add {N N' : Nat → Nat} {X X' : gp_H} {v : Int32} {b : Nat} (h : I_tap N X) (h1 : N' 14 = N 14 + 1) (hl : N 14 < 60) (hb : b ≤ 255) (e : v = nI b) (s1 : gI X' 40 0 = nI (N 14 + 1)) (s2 : gI X' 55 64 = nI (N 14 + 1)) (r1 : ∀ i, gI X' 41 i = if i = N 14 then v else gI X 41 i) (r2 : ∀ i, gI X' 102 i = if i = N 14 then v else gI X 102 i) : I_tap N' X' := by
  obtain ⟨w, q⟩ := h
  unfold I_tap
  rw [h1]
  refine ⟨⟨s1, s2, hl⟩, fun i => ⟨two_rows (fun i => (q i).1) r1 r2 i, ?_⟩⟩
  by_cases z : i = N 14
  · subst z; exact ⟨b, hb, (row_at r2).trans e⟩
  · rw [row_ne r2 z]; exact (q i).2
section FD
variable {E : gp_E} {S : gp_S}
theorem tj_inv {N : Nat → Nat} {X : gp_H} (h : Inv N S X) (hl : N 14 < 60) (x : Int32) : Inv (fun i => if i = 14 then N 14 + 1 else N i) S (TJ X (N 14) (x &&& 255)) := by
  obtain ⟨b, hb, eb⟩ := byte_le x
  have hx := X_sI (a := 55) (k := 64) (v := nI (N 14 + 1)) (X_sI (a := 102) (k := N 14) (v := x &&& 255) (X_sI (a := 41) (k := N 14) (v := x &&& 255) (X_sI (a := 40) (k := 0) (v := nI (N 14 + 1)) (X_0 h))))
  exact ⟨hx.1, (hx.2.1 rfl), (hx.2.2.1 rfl), (hx.2.2.2.1 rfl), (hx.2.2.2.2.1 rfl), (hx.2.2.2.2.2.1 rfl), (hx.2.2.2.2.2.2.1 rfl), (hx.2.2.2.2.2.2.2.1 rfl), (hx.2.2.2.2.2.2.2.2.1 rfl), (hx.2.2.2.2.2.2.2.2.2.1 rfl), (hx.2.2.2.2.2.2.2.2.2.2.1 rfl), (hx.2.2.2.2.2.2.2.2.2.2.2.1 rfl), (hx.2.2.2.2.2.2.2.2.2.2.2.2.1 rfl), (hx.2.2.2.2.2.2.2.2.2.2.2.2.2.1 rfl), (hx.2.2.2.2.2.2.2.2.2.2.2.2.2.2.1 rfl), (hx.2.2.2.2.2.2.2.2.2.2.2.2.2.2.2.1 rfl), (hx.2.2.2.2.2.2.2.2.2.2.2.2.2.2.2.2.1 rfl), (hx.2.2.2.2.2.2.2.2.2.2.2.2.2.2.2.2.2.1 rfl), I_tap_add h.tap rfl hl hb eb (by simp only [gI_sI, Nat.reduceEqDiff, false_and, true_and, and_false, and_true, ite_false, ite_true, ↓reduceIte, reduceCtorEq, TJ]) (by simp only [gI_sI, Nat.reduceEqDiff, false_and, true_and, and_false, and_true, ite_false, ite_true, ↓reduceIte, reduceCtorEq, TJ]) (fun i => by simp only [TJ, gI_sI, Nat.reduceEqDiff, false_and, true_and, and_false, and_true, ite_false, ite_true, ↓reduceIte, reduceCtorEq]) (fun i => by simp only [TJ, gI_sI, Nat.reduceEqDiff, false_and, true_and, and_false, and_true, ite_false, ite_true, ↓reduceIte, reduceCtorEq]), (hx.2.2.2.2.2.2.2.2.2.2.2.2.2.2.2.2.2.2.2.1 rfl), (hx.2.2.2.2.2.2.2.2.2.2.2.2.2.2.2.2.2.2.2.2.1 rfl), (hx.2.2.2.2.2.2.2.2.2.2.2.2.2.2.2.2.2.2.2.2.2 rfl)⟩
theorem fd_c {x1 x2 : Int32} : ∀ (k : Nat) (N : Nat → Nat) (X Y : gp_H), Inv N S X → Lay S Y → Cf X Y → N 14 + k ≤ 60 → Ev E m_la_addBytes 4 [(0, .ref 40), (1, .int x1), (2, .int x2), (3, .int (nI k - 1))] [] Y (0, 0) (fun r Y' => r = some (.int (nI (N 14 + k))) ∧ Lay S Y' ∧ Rf Y Y' ∧ Cf (fdZ x1 k (N 14) X) Y')
  | 0, N, X, Y, h, lY, g, hk => b_la_addBytes_4 lY ⟨fun _ => ⟨by rw [g 40 0 rfl, h.tap.1.1]; rfl, lY, rf_0 Y, g⟩, fun z => absurd (by decide) z⟩
  | k + 1, N, X, Y, h, lY, g, hk => by
    refine b_la_addBytes_4 lY ⟨fun z => absurd z (by rw [nI_pred]; exact nI_pos (by omega)), fun _ => ?_⟩
    rw [g 40 0 rfl, h.tap.1.1, nI_pred, nI_c (by omega), ← Int32.sub_eq_add_neg, nI_s]
    refine ⟨vin (by omega) (by omega), ?_⟩
    refine ev_post (fun r Y' hq => ?_) (fd_c k _ _ _ (tj_inv h (by omega) _) (ly_sI (ly_sI lY)) (cl_ (cl_ (cb (cb g)))) (by show N 14 + 1 + k ≤ 60; omega))
    obtain ⟨a, b, c, d⟩ := hq
    exact ⟨by rw [a]; show some (Value.int (nI (N 14 + 1 + k))) = _; rw [Nat.add_assoc, Nat.add_comm 1 k], b, r_tr (rg_sI (rg_sI (rf_0 Y))) c, d⟩
theorem fd_r {x1 x2 : Int32} : ∀ (k : Nat) (N : Nat → Nat) (X Y : gp_H), Inv N S X → Lay S Y → Rf X Y → N 14 + k ≤ 60 → Ev E m_mo_feed 30 [(0, .ref 55), (1, .int x1), (2, .int x2), (3, .int (nI k - 1))] [] Y (0, 0) (fun r Y' => r = some (.int (nI (N 14 + k))) ∧ Lay S Y' ∧ Cf Y Y' ∧ Rf (fdZ x1 k (N 14) X) Y' ∧ ∃ N', Inv N' S (fdZ x1 k (N 14) X))
  | 0, N, X, Y, h, lY, g, hk => b_mo_feed_30 lY ⟨fun _ => ⟨by rw [g 55 64 rfl, h.tap.1.2.1]; rfl, lY, cf_0 Y, g, N, h⟩, fun z => absurd (by decide) z⟩
  | k + 1, N, X, Y, h, lY, g, hk => by
    refine b_mo_feed_30 lY ⟨fun z => absurd z (by rw [nI_pred]; exact nI_pos (by omega)), fun _ => ?_⟩
    rw [g 55 64 rfl, h.tap.1.2.1, nI_pred, nI_c (by omega), ← Int32.sub_eq_add_neg, nI_s]
    refine ⟨vin (by omega) (by omega), ?_⟩
    refine ev_post (fun r Y' hq => ?_) (fd_r k _ _ _ (tj_inv h (by omega) _) (ly_sI (ly_sI lY)) (rb (rb (rl_ (rl_ g)))) (by show N 14 + 1 + k ≤ 60; omega))
    obtain ⟨a, b, c, d⟩ := hq
    exact ⟨by rw [a]; show some (Value.int (nI (N 14 + 1 + k))) = _; rw [Nat.add_assoc, Nat.add_comm 1 k], b, c_tr (cg_sI (cg_sI (cf_0 Y))) c, d⟩
end FD
theorem p_feed {E : gp_E} {N : Nat → Nat} {S : gp_S} {X : gp_H} (h : Inv N S X) (x1 x2 : Int32) : Ev E m_ga_feed 0 [(0, .ref 0), (1, .int x1), (2, .int x2)] [] X (0, 0) (gp_two E m_mo_feed [(0, .ref 55), (1, .int x1), (2, .int x2)]) := by
  have hL := h.lay
  obtain ⟨⟨k1, k2, k3⟩, q⟩ := h.tap
  have R := fun {Y : gp_H} (lY : Lay S Y) (gY : Rf X Y) {Q} => show _ from by
    have := b_mo_feed_0 (E := E) (x1 := x1) (x2 := x2) (Q := Q) lY
    rw [gY 55 64 rfl, k2] at this
    exact this
  refine b_ga_feed_0 hL ?_
  rw [k1]
  refine ⟨fun c1 => ?_, fun c1 => ⟨_, S, rfl, hL, R hL (rf_0 X) ⟨fun z => bnf c1 z, fun _ => ⟨rfl, N, h⟩⟩⟩⟩
  obtain ⟨m, hm, rfl⟩ := iw_lt (n := 4) 4 (by decide) c1
  refine ⟨fun c2 => ?_, fun c2 => ⟨_, S, rfl, hL, R hL (rf_0 X) ⟨fun _ => ⟨fun z => absurd z c2, fun _ => ⟨rfl, N, h⟩⟩, fun z => bne c1 z⟩⟩⟩
  have c2' : N 14 + m ≤ 60 := by
    rw [nI_add] at c2
    exact (nI_leI (b := 60) (by omega) (by omega)).mp c2
  refine ⟨_, b_la_addBytes_0 hL (fd_c m N X X h hL (cf_0 X) c2'), fun r Y ⟨hr, lY, rY, cY⟩ => ⟨_, hr, lY, _, S, rfl, lY, R lY rY ⟨fun _ => ⟨fun _ => ev_post (fun r2 Z hq => ?_) (fd_r m N X Y h lY rY c2'), fun z => absurd c2 z⟩, fun z => bne c1 z⟩⟩⟩
  obtain ⟨a, b, c, d, N', e⟩ := hq
  exact ⟨a, N', inv_cr e b (c_tr cY c) d⟩
