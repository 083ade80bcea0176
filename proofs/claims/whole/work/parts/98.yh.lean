section CHC
variable {E : gp_E} {N : Nat → Nat} {S : gp_S} {X Y : gp_H}
/-- the changed part is parted from the rest -/
def opC (N : Nat → Nat) (X : gp_H) (d : Int32) (p : Nat) : Int32 := if p < N 1 ∧ ¬ gI X 58 p = 0 then (if gb d (gI X 56 p) = gb d (gI X 57 p) then (if gb d (gI X 56 p) = true then 1 else gI X 59 p) else 0) else gI X 59 p
def TC (N : Nat → Nat) (X : gp_H) (d : Int32) : gp_H := gp_wI X (fun a k => if a = 5 ∨ a = 59 then opC N X d k else if a = 7 ∧ k < 12 then nearF (gI X 56) (gI X 57) (opC N X d) k (N 1) else gI X a k)
theorem tc_at (d : Int32) (a k : Nat) : gI (TC N X d) a k = if a = 5 ∨ a = 59 then opC N X d k else if a = 7 ∧ k < 12 then nearF (gI X 56) (gI X 57) (opC N X d) k (N 1) else gI X a k := rfl
theorem tc_ne {d : Int32} {a k : Nat} (h1 : a ≠ 5) (h2 : a ≠ 59) (h3 : a ≠ 7) : gI (TC N X d) a k = gI X a k := by
  rw [tc_at, if_neg (by omega), if_neg (by omega)]
theorem tc_inv (h : Inv N S X) (d : Int32) : Inv N S (TC N X d) := by
  obtain ⟨k0, k1, q1, q2, q3, q4, q5, q6, q7⟩ := h.net
  refine iw_y [(5, 0), (59, 0), (7, 0)] false N h (ly_wI h.lay) (fun a k ho _ => tc_ne (off_ne ho (5, 0)) (off_ne ho (59, 0)) (off_ne ho (7, 0))) (fun hx => ⟨hx.1, ?_, (hx.2.2.1 rfl), (hx.2.2.2.1 rfl), (hx.2.2.2.2.1 rfl), (hx.2.2.2.2.2.1 rfl), (hx.2.2.2.2.2.2.1 rfl), (hx.2.2.2.2.2.2.2.1 rfl), (hx.2.2.2.2.2.2.2.2.1 rfl), (hx.2.2.2.2.2.2.2.2.2.1 rfl), (hx.2.2.2.2.2.2.2.2.2.2.1 rfl), (hx.2.2.2.2.2.2.2.2.2.2.2.1 rfl), (hx.2.2.2.2.2.2.2.2.2.2.2.2.1 rfl), (hx.2.2.2.2.2.2.2.2.2.2.2.2.2.1 rfl), (hx.2.2.2.2.2.2.2.2.2.2.2.2.2.2.1 rfl), (hx.2.2.2.2.2.2.2.2.2.2.2.2.2.2.2.1 rfl), (hx.2.2.2.2.2.2.2.2.2.2.2.2.2.2.2.2.1 rfl), (hx.2.2.2.2.2.2.2.2.2.2.2.2.2.2.2.2.2.1 rfl), (hx.2.2.2.2.2.2.2.2.2.2.2.2.2.2.2.2.2.2.1 rfl), (hx.2.2.2.2.2.2.2.2.2.2.2.2.2.2.2.2.2.2.2.1 rfl), (hx.2.2.2.2.2.2.2.2.2.2.2.2.2.2.2.2.2.2.2.2.1 rfl), (hx.2.2.2.2.2.2.2.2.2.2.2.2.2.2.2.2.2.2.2.2.2 rfl)⟩)
  refine I_net_re h.net (gI X 58) (opC N X d) (fun q hq => ?_) (fun a ha k => ?_) (fun k => (tc_ne (by decide) (by decide) (by decide)).trans (q1 k).2.2.1) (fun k => tc_ne (by decide) (by decide) (by decide)) (fun k => (tc_at d 5 k).trans (if_pos (Or.inl rfl))) (fun k => (tc_at d 59 k).trans (if_pos (Or.inr rfl))) (fun p => ⟨(q3 p).1, ?_⟩) (fun p hp z => ?_) (fun k hk => ?_)
  · simp only [List.mem_cons, List.not_mem_nil, or_false] at hq
    rcases hq with rfl | rfl | rfl | rfl | rfl | rfl <;> exact tc_ne (by decide) (by decide) (by decide)
  · simp only [List.mem_cons, List.not_mem_nil, or_false] at ha
    rcases ha with rfl | rfl | rfl | rfl | rfl <;> exact tc_ne (by decide) (by decide) (by decide)
  · unfold opC
    split
    · split
      · split
        · exact Or.inr rfl
        · exact (q3 p).2
      · exact Or.inl rfl
    · exact (q3 p).2
  · unfold opC
    rw [if_neg (fun y => y.2 z)]
    exact q4 p hp z
  · rw [tc_at, if_neg (by omega), if_pos ⟨rfl, hk⟩]
theorem s_part (h : Inv N S X) (lY : Lay S Y) (c : Cf X Y) (d : Int32) : Ev E m_ne_partFromRest 0 [(0, .ref 1), (1, .int d)] [] Y (0, 0) (fun r Y' => r = none ∧ Lay S Y' ∧ Rf Y Y' ∧ Cf (TC N X d) Y') := by
  obtain ⟨⟨k0, -, k01⟩, ⟨k1, k2, k3⟩, q1, q2, q3, q4, q5, q6, q7⟩ := h.net
  have go : ∀ t i (Y1 : gp_H), t + i = N 1 → Lay S Y1 → Rf Y Y1 → (∀ a k, (Nat.blt a 55 || Nat.ble 114 a) = true → gI Y1 a k = if a = 5 ∧ k < i then opC N X d k else gI X a k) → Ev E m_ne_partFromRest 2 [(0, .ref 1), (1, .int d), (2, .int (nI i))] [] Y1 (0, 0) (fun r Y' => r = none ∧ Lay S Y' ∧ Rf Y Y' ∧ Cf (TC N X d) Y') := by
    intro t
    induction t with
    | zero =>
      intro i Y1 e l1 r1 c1
      obtain rfl : i = N 1 := by omega
      have o : ∀ a k, (Nat.blt a 55 || Nat.ble 114 a) = true → a ≠ 5 → gI Y1 a k = gI X a k := fun a k ha hn => by rw [c1 a k ha, if_neg (fun y => hn y.1)]
      have o2 : ∀ k, gI Y1 2 k = gI X 56 k := fun k => (o 2 k rfl (by decide)).trans (q1 k).1
      have o3 : ∀ k, gI Y1 3 k = gI X 57 k := fun k => (o 3 k rfl (by decide)).trans (q1 k).2.1
      refine b_ne_partFromRest_2 l1 ⟨fun _ => wh_n (s_ne_joinOpen l1 ((o 1 1 rfl (by decide)).trans k1) k3 (fun p hp => ?_)) (ly_wI l1) ⟨rfl, ly_wI l1, rg_w r1 (fun a k ha => if_neg (fun y => absurd (isR_lt ha).1 (by omega))), fun a k ha => ?_⟩, fun z => absurd (by rw [o 1 1 rfl (by decide), k1]; exact Int32.le_refl _) z⟩
      · obtain ⟨i, j, h1, h2, h3, h4, h5⟩ := q2 p hp
        exact ⟨i, j, by omega, by omega, h3, (o2 p).trans h4, (o3 p).trans h5⟩
      · have ha' := cc_or ha
        show (if a = 7 ∧ k < 12 then nearF (gI Y1 2) (gI Y1 3) (gI Y1 5) k (N 1) else gI Y1 a k) = _
        rw [tc_at]
        by_cases z1 : a = 7 ∧ k < 12
        · rw [if_pos z1, if_neg (show ¬ (a = 5 ∨ a = 59) by omega), if_pos z1]
          exact near_cg (N 1) (fun p hp => ⟨o2 p, o3 p, by rw [c1 5 p rfl, if_pos ⟨rfl, hp⟩]⟩)
        · rw [if_neg z1, c1 a k ha]
          by_cases z2 : a = 5
          · rw [if_pos (Or.inl z2)]
            by_cases z3 : k < N 1
            · rw [if_pos ⟨z2, z3⟩]
            · rw [if_neg (fun y => z3 y.2), z2, (q1 k).2.2.2]
              exact (if_neg (fun y => z3 y.1)).symm
          · rw [if_neg (fun y => z2 y.1), if_neg (show ¬ (a = 5 ∨ a = 59) by omega), if_neg z1]
    | succ t ih =>
      intro i Y1 e l1 r1 c1
      have hi : i < N 1 := by omega
      have o : ∀ a k, (Nat.blt a 55 || Nat.ble 114 a) = true → a ≠ 5 → gI Y1 a k = gI X a k := fun a k ha hn => by rw [c1 a k ha, if_neg (fun y => hn y.1)]
      have o2 : ∀ k, gI Y1 2 k = gI X 56 k := fun k => (o 2 k rfl (by decide)).trans (q1 k).1
      have o3 : ∀ k, gI Y1 3 k = gI X 57 k := fun k => (o 3 k rfl (by decide)).trans (q1 k).2.1
      have keep : opC N X d i = gI X 59 i → Ev E m_ne_partFromRest 2 [(0, .ref 1), (1, .int d), (2, .int (nI (i + 1)))] [] Y1 (0, 0) (fun r Y' => r = none ∧ Lay S Y' ∧ Rf Y Y' ∧ Cf (TC N X d) Y') := fun z => ih (i + 1) Y1 (by omega) l1 r1 (fun a k ha => by
        rw [c1 a k ha]
        by_cases z1 : a = 5 ∧ k < i
        · rw [if_pos z1, if_pos (by omega)]
        · rw [if_neg z1]
          by_cases z2 : a = 5 ∧ k = i
          · rw [if_pos (by omega), z2.1, z2.2, z, (q1 i).2.2.2]
          · rw [if_neg (by omega)])
      have wr : ∀ v, opC N X d i = v → Ev E m_ne_partFromRest 2 [(0, .ref 1), (1, .int d), (2, .int (nI (i + 1)))] [] (gp_sI Y1 5 i v) (0, 0) (fun r Y' => r = none ∧ Lay S Y' ∧ Rf Y Y' ∧ Cf (TC N X d) Y') := fun v z => ih (i + 1) _ (by omega) (ly_sI l1) (rg_sI r1) (fun a k ha => by
        show (if a = 5 ∧ k = i then v else gI Y1 a k) = _
        by_cases z2 : a = 5 ∧ k = i
        · rw [if_pos z2, if_pos (by omega), z2.2, z]
        · rw [if_neg z2, c1 a k ha]
          by_cases z1 : a = 5 ∧ k < i
          · rw [if_pos z1, if_pos (by omega)]
          · rw [if_neg z1, if_neg (show ¬ (a = 5 ∧ k < i + 1) by omega)])
      have sc : Ev E m_ne_crosses 0 [(0, .ref 1), (1, .int (nI i)), (2, .int d)] [] Y1 (0, 0) (gp_q (some (.int (if gb d (gI X 56 i) = gb d (gI X 57 i) then 0 else 1))) Y1) := by
        refine b_ne_crosses_0 l1 ⟨vin (by omega) (by omega), ?_⟩
        rw [nI_c (by omega), o2, o3, bz_eq]
        exact ⟨fun c => ⟨by rw [if_pos c], rfl⟩, fun c => ⟨by rw [if_neg c], rfl⟩⟩
      refine b_ne_partFromRest_2 l1 ⟨fun z => absurd z (by rw [o 1 1 rfl (by decide), k1]; exact nI_nge hi (by omega)), fun _ => ⟨vin (by omega) (by omega), ?_⟩⟩
      rw [nI_c (k := i) (by omega), o 4 i rfl (by decide), (q1 i).2.2.1, nI_s]
      refine ⟨fun z => wh_i sc l1 ?_, fun z => keep (if_neg (fun y => y.2 z))⟩
      rw [o2]
      have e0 : opC N X d i = if gb d (gI X 56 i) = gb d (gI X 57 i) then (if gb d (gI X 56 i) = true then 1 else gI X 59 i) else 0 := if_pos ⟨hi, z⟩
      by_cases y : gb d (gI X 56 i) = gb d (gI X 57 i)
      · rw [if_pos y] at e0 ⊢
        exact ⟨fun _ => ⟨fun y2 => keep (e0.trans (if_neg (fun x => bnf y2 x))), fun y2 => wr 1 (e0.trans (if_pos y2))⟩, fun x => absurd rfl x⟩
      · rw [if_neg y] at e0 ⊢
        exact ⟨fun x => absurd x (by decide), fun _ => wr 0 e0⟩
  exact b_ne_partFromRest_0 lY (go (N 1) 0 Y rfl lY (rf_0 Y) (fun a k ha => by rw [c a k ha, if_neg (by omega)]))
theorem s_open (h : Inv N S X) {x1 x2 d : Int32} {Q : Option Value → gp_H → Prop} (lY : Lay S Y) (c : Rf X Y) (g : ∀ Y', Lay S Y' → Cf Y Y' → Rf (TC N X d) Y' → Ev E m_mo_change 234 [(0, .ref 55), (1, .int x1), (2, .int x2), (3, .int d), (4, .int 0), (5, .int 0)] [] Y' (0, 0) Q) : Ev E m_mo_change 153 [(0, .ref 55), (1, .int x1), (2, .int x2), (3, .int d), (4, .int 0)] [] Y (0, 0) Q := by
  obtain ⟨⟨k0, -, k01⟩, ⟨k1, k2, k3⟩, q1, q2, q3, q4, q5, q6, q7⟩ := h.net
  have go : ∀ t i (Y1 : gp_H), t + i = N 1 → Lay S Y1 → Cf Y Y1 → (∀ a k, isR a = true → gI Y1 a k = if a = 59 ∧ k < i then opC N X d k else gI X a k) → Ev E m_mo_change 153 [(0, .ref 55), (1, .int x1), (2, .int x2), (3, .int d), (4, .int (nI i))] [] Y1 (0, 0) Q := by
    intro t
    induction t with
    | zero =>
      intro i Y1 e l1 c1 r1
      obtain rfl : i = N 1 := by omega
      refine b_mo_change_153 l1 ⟨fun _ => g Y1 l1 c1 (fun a k ha => ?_), fun z => absurd (by rw [r1 55 1 rfl, if_neg (by omega), k2]; exact Int32.le_refl _) z⟩
      have hb := isR_lt ha
      rw [r1 a k ha, tc_at]
      by_cases z2 : a = 59
      · rw [if_pos (Or.inr z2)]
        by_cases z3 : k < N 1
        · rw [if_pos ⟨z2, z3⟩]
        · rw [if_neg (fun y => z3 y.2), z2]
          exact (if_neg (fun y => z3 y.1)).symm
      · rw [if_neg (fun y => z2 y.1), if_neg (show ¬ (a = 5 ∨ a = 59) by omega), if_neg (show ¬ (a = 7 ∧ k < 12) by omega)]
    | succ t ih =>
      intro i Y1 e l1 c1 r1
      have hi : i < N 1 := by omega
      have o : ∀ a k, isR a = true → a ≠ 59 → gI Y1 a k = gI X a k := fun a k ha hn => by rw [r1 a k ha, if_neg (fun y => hn y.1)]
      have keep : opC N X d i = gI X 59 i → Ev E m_mo_change 153 [(0, .ref 55), (1, .int x1), (2, .int x2), (3, .int d), (4, .int (nI (i + 1)))] [] Y1 (0, 0) Q := fun z => ih (i + 1) Y1 (by omega) l1 c1 (fun a k ha => by
        rw [r1 a k ha]
        by_cases z1 : a = 59 ∧ k < i
        · rw [if_pos z1, if_pos (by omega)]
        · rw [if_neg z1]
          by_cases z2 : a = 59 ∧ k = i
          · rw [if_pos (by omega), z2.1, z2.2, z]
          · rw [if_neg (by omega)])
      have wr : ∀ v, opC N X d i = v → Ev E m_mo_change 153 [(0, .ref 55), (1, .int x1), (2, .int x2), (3, .int d), (4, .int (nI (i + 1)))] [] (gp_sI Y1 59 i v) (0, 0) Q := fun v z => ih (i + 1) _ (by omega) (ly_sI l1) (cg_sI c1) (fun a k ha => by
        show (if a = 59 ∧ k = i then v else gI Y1 a k) = _
        by_cases z2 : a = 59 ∧ k = i
        · rw [if_pos z2, if_pos (by omega), z2.2, z]
        · rw [if_neg z2, r1 a k ha]
          by_cases z1 : a = 59 ∧ k < i
          · rw [if_pos z1, if_pos (by omega)]
          · rw [if_neg z1, if_neg (show ¬ (a = 59 ∧ k < i + 1) by omega)])
      have sc : Ev E m_mo_isBorder 0 [(0, .ref 55), (1, .int (nI i)), (2, .int d)] [] Y1 (0, 0) (gp_q (some (.int (if gb d (gI X 56 i) = gb d (gI X 57 i) then 0 else 1))) Y1) := by
        refine b_mo_isBorder_0 l1 ⟨vin (by omega) (by omega), ?_⟩
        rw [nI_c (by omega), o 56 i rfl (by decide), o 57 i rfl (by decide), bz_eq]
        exact ⟨fun c => ⟨by rw [if_pos c], rfl⟩, fun c => ⟨by rw [if_neg c], rfl⟩⟩
      refine b_mo_change_153 l1 ⟨fun z => absurd z (by rw [o 55 1 rfl (by decide), k2]; exact nI_nge hi (by omega)), fun _ => ⟨vin (by omega) (by omega), ?_⟩⟩
      rw [nI_c (k := i) (by omega), o 58 i rfl (by decide), o 56 i rfl (by decide), o 57 i rfl (by decide), nI_s]
      refine ⟨fun z => keep (if_neg (fun y => y.2 z)), fun z => ?_⟩
      have e0 : opC N X d i = if gb d (gI X 56 i) = gb d (gI X 57 i) then (if gb d (gI X 56 i) = true then 1 else gI X 59 i) else 0 := if_pos ⟨hi, z⟩
      have mid : (gb d (gI X 56 i) = true ∨ gb d (gI X 57 i) = true) → Ev E m_mo_change 200 [(0, .ref 55), (1, .int x1), (2, .int x2), (3, .int d), (4, .int (nI i))] [] Y1 (0, 0) Q := fun y0 => by
        refine b_mo_change_200 l1 (wh_i sc l1 ?_)
        rw [nI_c (k := i) (by omega), nI_s]
        by_cases y : gb d (gI X 56 i) = gb d (gI X 57 i)
        · rw [if_pos y] at e0 ⊢
          have y1 : gb d (gI X 56 i) = true := y0.elim id (fun x => y.trans x)
          exact ⟨fun x => absurd rfl x, fun _ => ⟨vin (by omega) (by omega), wr 1 (e0.trans (if_pos y1))⟩⟩
        · rw [if_neg y] at e0 ⊢
          exact ⟨fun _ => ⟨vin (by omega) (by omega), wr 0 e0⟩, fun x => absurd x (by decide)⟩
      refine ⟨fun y => mid (Or.inl y), fun y => ⟨fun y2 => keep ?_, fun y2 => mid (Or.inr y2)⟩⟩
      rw [e0, if_pos (y.trans y2.symm), if_neg (fun x => bnf y x)]
  exact go (N 1) 0 Y rfl lY (cf_0 Y) (fun a k ha => by rw [c a k ha, if_neg (by omega)])
end CHC
