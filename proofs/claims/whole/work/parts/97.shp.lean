section SHE
variable {E : gp_E} {N : Nat → Nat} {S : gp_S} {X Y : gp_H}
theorem sh_ref (hX : Lay S X) {s : Nat} (hs : s < 3) : X.2.2.1 51 s = some (52 + s) ∧ gp_at X (52 + s) (13, 40) := by
  rcases (show s = 0 ∨ s = 1 ∨ s = 2 by omega) with r | r | r <;> subst r
  · exact ⟨ly_rf hX 51 0 rfl, ly_at hX 52 rfl⟩
  · exact ⟨ly_rf hX 51 1 rfl, ly_at hX 53 rfl⟩
  · exact ⟨ly_rf hX 51 2 rfl, ly_at hX 54 rfl⟩
theorem s_isMissing (hX : Lay S X) {s : Nat} (hs : s < 3) : Ev E m_sh_isMissing 0 [(0, .ref 48), (1, .int (nI s))] [] X (0, 0) (gp_q (some (.int (if gI X 49 s = -1 then 1 else 0))) X) := by
  refine b_sh_isMissing_0 hX ⟨vin (by omega) (by omega), ?_⟩
  rw [nI_c (by omega)]
  exact ⟨fun c => ⟨by rw [if_neg c], rfl⟩, fun c => ⟨by rw [if_pos c], rfl⟩⟩
def cutV (t v : Int32) : Int32 := if t = 0 then Int8.toInt32 (Int32.toInt8 v) else if t = 1 then Int16.toInt32 (Int32.toInt16 v) else v
theorem s_cutToSort (hX : Lay S X) {s : Nat} (hs : s < 3) (v : Int32) : Ev E m_sh_cutToSort 0 [(0, .ref 48), (1, .int (nI s)), (2, .int v)] [] X (0, 0) (gp_q (some (.int (cutV (gI X 49 s) v))) X) := by
  refine b_sh_cutToSort_0 hX ⟨vin (by omega) (by omega), ?_⟩
  rw [nI_c (by omega)]
  unfold cutV
  exact ⟨fun c => ⟨by rw [if_pos c], rfl⟩, fun c => ⟨by rw [if_neg (by rw [c]; decide), if_pos c], rfl⟩, fun c c2 => ⟨by rw [if_neg c, if_neg c2], rfl⟩⟩
theorem ix40 (s i : Nat) : (40 : Int32) * nI s + nI i = nI (40 * s + i) := by
  rw [show (40 : Int32) = nI 40 from rfl, pk_mul, nI_add]
theorem mis0 {c : Prop} [Decidable c] : ((if c then (1 : Int32) else 0) = 0) ↔ ¬ c := by
  by_cases h : c
  · rw [if_pos h]; exact ⟨fun z => absurd z (by decide), fun z => absurd h z⟩
  · rw [if_neg h]; exact ⟨fun _ => h, fun _ => rfl⟩
theorem I_she_it {X' : gp_H} (h : I_she X) (e : ∀ a, a = 49 ∨ a = 50 ∨ a = 104 ∨ a = 105 → ∀ k, gI X' a k = gI X a k) (it : ∀ s, s < 3 → gI X 104 s ≠ -1 → ∀ i, i < 40 → gI X' (52 + s) i = gI X' 106 (40 * s + i)) : I_she X' := by
  intro s hs
  have b := h s hs
  rw [e 49 (by omega), e 50 (by omega), e 104 (by omega), e 105 (by omega)]
  exact ⟨b.1, b.2.1, fun z => ⟨(b.2.2 z).1, (b.2.2 z).2.1, it s hs z⟩⟩
end SHE
theorem p_cell {E : gp_E} {N : Nat → Nat} {S : gp_S} {X : gp_H} (h : Inv N S X) (x1 x2 x3 : Int32) : Ev E m_ga_cell 0 [(0, .ref 0), (1, .int x1), (2, .int x2), (3, .int x3)] [] X (0, 0) (gp_two E m_mo_cell [(0, .ref 55), (1, .int x1), (2, .int x2), (3, .int x3)]) := by
  have hL := h.lay
  have q := h.she
  have R := fun {Y : gp_H} (lY : Lay S Y) (gY : Rf X Y) {Q} => show _ from by
    have := b_mo_cell_0 (E := E) (x1 := x1) (x2 := x2) (x3 := x3) (Q := Q) lY
    rw [gY 104 _ rfl, gY 105 _ rfl] at this
    exact this
  refine b_ga_cell_0 hL ⟨fun c1 => ?_, fun c1 => ⟨_, S, rfl, hL, R hL (rf_0 X) ⟨fun z => bnf c1 z, fun _ => ⟨rfl, N, h⟩⟩⟩⟩
  obtain ⟨s, hs, rfl⟩ := iw_lt (n := 2) 2 (by decide) c1
  have hs3 : s < 3 := by omega
  have vi : vp_in (nI s) 3 := vin (by omega) (by omega)
  obtain ⟨e1, e2, e3⟩ := q s hs3
  rw [nI_c (k := s) (by omega)] at R
  refine wh_i (s_isMissing hL hs3) hL ?_
  rw [nI_c (k := s) (by omega), e1, mis0]
  refine ⟨fun c2 => ⟨vi, ?_⟩, fun c2 => ⟨_, S, rfl, hL, R hL (rf_0 X) ⟨fun _ => ⟨vi, fun z => absurd z c2, fun _ => ⟨rfl, N, h⟩⟩, fun z => bne c1 z⟩⟩⟩
  obtain ⟨e4, ⟨n, hn, e5⟩, e6⟩ := e3 c2
  rw [e4, e5]
  rw [e5] at R
  refine ⟨fun c3 => ?_, fun c3 => ⟨_, S, rfl, hL, R hL (rf_0 X) ⟨fun _ => ⟨vi, fun _ => ⟨fun z => bnf c3 z, fun _ => ⟨rfl, N, h⟩⟩, fun z => absurd z c2⟩, fun z => bne c1 z⟩⟩⟩
  obtain ⟨i, hi, rfl⟩ := iw_nI (by omega) c3
  obtain ⟨r1, r2⟩ := sh_ref hL hs3
  refine ⟨vi, _, r1, r2, wh_i (s_cutToSort hL hs3 x3) hL ⟨r2, vin (by omega) (by omega), ?_⟩⟩
  rw [nI_c (k := i) (by omega), e1]
  rw [ix40, nI_c (k := 40 * s + i) (by omega)] at R
  have gY : Rf X (gp_sI X (52 + s) i (cutV (gI X 104 s) x3)) := fun a k ha => by
    have ha := isR_lt ha
    exact if_neg (fun z => by have := z.1; omega)
  have vx : vp_in (nI (40 * s + i)) 120 := vin (by omega) (by omega)
  have fin : ∀ w : Int32, w = cutV (gI X 104 s) x3 → ∃ M, Inv M S (gp_sI (gp_sI X (52 + s) i (cutV (gI X 104 s) x3)) 106 (40 * s + i) w) := by
    intro w ew
    subst ew
    have rd : ∀ a k, gI (gp_sI (gp_sI X (52 + s) i (cutV (gI X 104 s) x3)) 106 (40 * s + i) (cutV (gI X 104 s) x3)) a k = if a = 106 ∧ k = 40 * s + i then cutV (gI X 104 s) x3 else if a = 52 + s ∧ k = i then cutV (gI X 104 s) x3 else gI X a k := fun a k => rfl
    refine iv_y [(52, 0), (53, 0), (54, 0), (106, 0)] false N h (ly_sI (ly_sI hL)) (fun a k ho _ => ?_) (fun hx => ⟨hx.1, (hx.2.1 rfl), (hx.2.2.1 rfl), (hx.2.2.2.1 rfl), (hx.2.2.2.2.1 rfl), (hx.2.2.2.2.2.1 rfl), (hx.2.2.2.2.2.2.1 rfl), (hx.2.2.2.2.2.2.2.1 rfl), (hx.2.2.2.2.2.2.2.2.1 rfl), (hx.2.2.2.2.2.2.2.2.2.1 rfl), (hx.2.2.2.2.2.2.2.2.2.2.1 rfl), (hx.2.2.2.2.2.2.2.2.2.2.2.1 rfl), (hx.2.2.2.2.2.2.2.2.2.2.2.2.1 rfl), (hx.2.2.2.2.2.2.2.2.2.2.2.2.2.1 rfl), (hx.2.2.2.2.2.2.2.2.2.2.2.2.2.2.1 rfl), (hx.2.2.2.2.2.2.2.2.2.2.2.2.2.2.2.1 rfl), (hx.2.2.2.2.2.2.2.2.2.2.2.2.2.2.2.2.1 rfl), (hx.2.2.2.2.2.2.2.2.2.2.2.2.2.2.2.2.2.1 rfl), (hx.2.2.2.2.2.2.2.2.2.2.2.2.2.2.2.2.2.2.1 rfl), (hx.2.2.2.2.2.2.2.2.2.2.2.2.2.2.2.2.2.2.2.1 rfl), ?_, (hx.2.2.2.2.2.2.2.2.2.2.2.2.2.2.2.2.2.2.2.2.2 rfl)⟩)
    · have d1 : a ≠ 52 := off_ne ho (52, 0)
      have d2 : a ≠ 53 := off_ne ho (53, 0)
      have d3 : a ≠ 54 := off_ne ho (54, 0)
      have d4 : a ≠ 106 := off_ne ho (106, 0)
      rw [rd, if_neg (fun z => d4 z.1), if_neg (by omega)]
    · refine I_she_it h.she (fun a ha k => by rw [rd, if_neg (by omega), if_neg (by omega)]) (fun t ht c i' hi' => ?_)
      rw [rd, rd, if_neg (by omega)]
      by_cases zt : t = s
      · subst zt
        by_cases zi : i' = i
        · subst zi
          rw [if_pos ⟨rfl, rfl⟩, if_pos ⟨rfl, rfl⟩]
        · rw [if_neg (fun z => zi z.2), if_neg (by omega), if_neg (by omega)]
          exact ((q t ht).2.2 c).2.2 i' hi'
      · rw [if_neg (by omega), if_neg (by omega), if_neg (by omega)]
        exact ((q t ht).2.2 c).2.2 i' hi'
  refine ⟨_, S, rfl, ly_sI hL, R (ly_sI hL) gY ⟨fun _ => ⟨vi, fun _ => ⟨fun _ => ⟨fun z => ⟨fun z2 => ⟨vx, rfl, fin _ ?_⟩, fun z2 => ⟨vx, rfl, fin _ ?_⟩⟩, fun z => ⟨vx, rfl, fin _ ?_⟩⟩, fun z => bne c3 z⟩, fun z => absurd z c2⟩, fun z => bne c1 z⟩⟩
  · unfold cutV; rw [if_neg z, if_neg z2]
  · unfold cutV; rw [if_neg z, if_pos z2]
  · unfold cutV; rw [if_pos z]
theorem s_sheet71 {E : gp_E} {S : gp_S} {Y : gp_H} (hX : Lay S Y) {s : Nat} (hs : s < 3) (x2 x3 : Int32) : Ev E m_mo_sheet 71 [(0, .ref 55), (1, .int (nI s)), (2, .int x2), (3, .int x3), (4, .int (40 * nI s))] [] Y (0, 0) (gp_q (some (.int 1)) (gp_wI Y (fun a k => if a = 106 ∧ 40 * s ≤ k ∧ k < 40 * s + 40 then 0 else gI Y a k))) := by
  have e0 : (fun a k => if a = 106 ∧ 40 * s ≤ k ∧ k < 40 * s + 0 then 0 else gI Y a k) = gI Y := funext fun a => funext fun k => if_neg (fun z => by omega)
  have e40 : (40 : Int32) * nI s = nI (40 * s + 0) := by rw [← ix40]; exact (Int32.add_zero _).symm
  suffices key : Ev E m_mo_sheet 71 [(0, .ref 55), (1, .int (nI s)), (2, .int x2), (3, .int x3), (4, .int (nI (40 * s + 0)))] [] (gp_wI Y (fun a k => if a = 106 ∧ 40 * s ≤ k ∧ k < 40 * s + 0 then 0 else gI Y a k)) (0, 0) (gp_q (some (.int 1)) (gp_wI Y (fun a k => if a = 106 ∧ 40 * s ≤ k ∧ k < 40 * s + 40 then 0 else gI Y a k))) by
    rw [e0] at key
    rw [e40]
    exact key
  refine dn (P := fun j => Ev E m_mo_sheet 71 [(0, .ref 55), (1, .int (nI s)), (2, .int x2), (3, .int x3), (4, .int (nI (40 * s + j)))] [] (gp_wI Y (fun a k => if a = 106 ∧ 40 * s ≤ k ∧ k < 40 * s + j then 0 else gI Y a k)) (0, 0) (gp_q (some (.int 1)) (gp_wI Y (fun a k => if a = 106 ∧ 40 * s ≤ k ∧ k < 40 * s + 40 then 0 else gI Y a k)))) (n := 40) ?_ ?_
  · refine b_mo_sheet_71 (ly_wI hX) ⟨fun _ => ⟨rfl, rfl⟩, fun z => absurd ?_ z⟩
    rw [show ((40 : Int32) * nI s + 40) = nI (40 * s + 40) from ix40 s 40]; exact Int32.le_refl _
  · intro j hj ih
    refine b_mo_sheet_71 (ly_wI hX) ⟨fun z => absurd z ?_, fun _ => ⟨vin (by omega) (by omega), ?_⟩⟩
    · rw [show ((40 : Int32) * nI s + 40) = nI (40 * s + 40) from ix40 s 40]; exact nI_nge (by omega) (by omega)
    rw [nI_c (by omega), nI_s, w_sI]
    have e : gp_up (fun a k => if a = 106 ∧ 40 * s ≤ k ∧ k < 40 * s + j then 0 else gI Y a k) 106 (40 * s + j) 0 = (fun a k => if a = 106 ∧ 40 * s ≤ k ∧ k < 40 * s + (j + 1) then 0 else gI Y a k) := by
      funext a k
      show (if a = 106 ∧ k = 40 * s + j then 0 else if a = 106 ∧ 40 * s ≤ k ∧ k < 40 * s + j then 0 else gI Y a k) = (if a = 106 ∧ 40 * s ≤ k ∧ k < 40 * s + (j + 1) then 0 else gI Y a k)
      by_cases z1 : a = 106 ∧ 40 * s ≤ k ∧ k < 40 * s + (j + 1)
      · rw [if_pos z1]
        by_cases z2 : k = 40 * s + j
        · rw [if_pos ⟨z1.1, z2⟩]
        · rw [if_neg (fun q => z2 q.2), if_pos ⟨z1.1, by omega⟩]
      · rw [if_neg z1, if_neg (fun q => z1 ⟨q.1, by omega⟩), if_neg (fun q => z1 ⟨q.1, by omega⟩)]
    rw [e]
    exact ih
theorem p_sheet {E : gp_E} {N : Nat → Nat} {S : gp_S} {X : gp_H} (h : Inv N S X) (x1 x2 x3 : Int32) : Ev E m_ga_sheet 0 [(0, .ref 0), (1, .int x1), (2, .int x2), (3, .int x3)] [] X (0, 0) (gp_two E m_mo_sheet [(0, .ref 55), (1, .int x1), (2, .int x2), (3, .int x3)]) := by
  have hL := h.lay
  have q := h.she
  have R := fun {Y : gp_H} (lY : Lay S Y) {Q} => b_mo_sheet_0 (E := E) (x1 := x1) (x2 := x2) (x3 := x3) (Q := Q) lY
  refine b_ga_sheet_0 hL ⟨fun c1 => ⟨_, S, rfl, hL, R hL ⟨fun _ => ⟨rfl, N, h⟩, fun z => bnf c1 z⟩⟩, fun c1 => ⟨fun c2 => ?_, fun c2 => ⟨_, S, rfl, hL, R hL ⟨fun z => bne c1 z, fun _ => ⟨fun _ => ⟨rfl, N, h⟩, fun z => bnf c2 z⟩⟩⟩⟩⟩
  obtain ⟨s, hs, rfl⟩ := iw_lt (n := 2) 2 (by decide) c1
  have hs3 : s < 3 := by omega
  have vi : vp_in (nI s) 3 := vin (by omega) (by omega)
  have cl : Int32.toNatClampNeg (nI s) = s := nI_c (by omega)
  have hx2 : x2 = -1 ∨ x2 = 0 ∨ x2 = 1 ∨ x2 = 2 := by
    obtain ⟨a, b⟩ := iw_ab c2
    rw [Int32.le_iff_toInt_le] at a b
    have a1 : (-1 : Int32).toInt = -1 := by decide
    have b1 : (2 : Int32).toInt = 2 := by decide
    rw [a1] at a; rw [b1] at b
    rcases (show x2.toInt = -1 ∨ x2.toInt = 0 ∨ x2.toInt = 1 ∨ x2.toInt = 2 by omega) with e | e | e | e
    · exact Or.inl (gp_eqi e (by decide))
    · exact Or.inr (Or.inl (gp_eqi e (by decide)))
    · exact Or.inr (Or.inr (Or.inl (gp_eqi e (by decide))))
    · exact Or.inr (Or.inr (Or.inr (gp_eqi e (by decide))))
  -- the end, of any heap that the class leaves
  have fin : ∀ (Y : gp_H) (t0 : Int32), Lay S Y → (∀ a k, a ≠ 49 → a ≠ 50 → a ≠ 52 + s → gI Y a k = gI X a k) → (∀ k, gI Y 49 k = if k = s then x2 else gI X 49 k) → (∀ k, k ≠ s → gI Y 50 k = gI X 50 k) → (x2 ≠ -1 → gI Y 50 s = t0 ∧ (∃ n, n ≤ 40 ∧ t0 = nI n) ∧ ∀ k, k < 40 → gI Y (52 + s) k = 0) → Ev E m_mo_sheet 64 [(0, .ref 55), (1, .int (nI s)), (2, .int x2), (3, .int x3)] [.int t0, .int (nI s), .ref 105] (gp_sI Y 104 s x2) (0, 0) (fun r2 X2 => r2 = some (.int 1) ∧ ∃ N, Inv N S X2) := by
    intro Y t0 lY y0 y49 y50 y5
    refine b_mo_sheet_64 (ly_sI lY) ⟨vi, ?_⟩
    rw [cl]
    refine ev_q (s_sheet71 (ly_sI (ly_sI lY)) hs3 x2 x3) ⟨rfl, ?_⟩
    have rd : ∀ a k, gI (gp_wI (gp_sI (gp_sI Y 104 s x2) 105 s t0) (fun a k => if a = 106 ∧ 40 * s ≤ k ∧ k < 40 * s + 40 then 0 else gI (gp_sI (gp_sI Y 104 s x2) 105 s t0) a k)) a k = if a = 106 ∧ 40 * s ≤ k ∧ k < 40 * s + 40 then 0 else if a = 105 ∧ k = s then t0 else if a = 104 ∧ k = s then x2 else gI Y a k := fun a k => rfl
    refine iv_y [(49, 0), (50, 0), (52, 0), (53, 0), (54, 0), (104, 0), (105, 0), (106, 0)] false N h (ly_wI (ly_sI (ly_sI lY))) (fun a k ho _ => ?_) (fun hx => ⟨hx.1, (hx.2.1 rfl), (hx.2.2.1 rfl), (hx.2.2.2.1 rfl), (hx.2.2.2.2.1 rfl), (hx.2.2.2.2.2.1 rfl), (hx.2.2.2.2.2.2.1 rfl), (hx.2.2.2.2.2.2.2.1 rfl), (hx.2.2.2.2.2.2.2.2.1 rfl), (hx.2.2.2.2.2.2.2.2.2.1 rfl), (hx.2.2.2.2.2.2.2.2.2.2.1 rfl), (hx.2.2.2.2.2.2.2.2.2.2.2.1 rfl), (hx.2.2.2.2.2.2.2.2.2.2.2.2.1 rfl), (hx.2.2.2.2.2.2.2.2.2.2.2.2.2.1 rfl), (hx.2.2.2.2.2.2.2.2.2.2.2.2.2.2.1 rfl), (hx.2.2.2.2.2.2.2.2.2.2.2.2.2.2.2.1 rfl), (hx.2.2.2.2.2.2.2.2.2.2.2.2.2.2.2.2.1 rfl), (hx.2.2.2.2.2.2.2.2.2.2.2.2.2.2.2.2.2.1 rfl), (hx.2.2.2.2.2.2.2.2.2.2.2.2.2.2.2.2.2.2.1 rfl), (hx.2.2.2.2.2.2.2.2.2.2.2.2.2.2.2.2.2.2.2.1 rfl), ?_, (hx.2.2.2.2.2.2.2.2.2.2.2.2.2.2.2.2.2.2.2.2.2 rfl)⟩)
    · have d1 : a ≠ 52 := off_ne ho (52, 0)
      have d2 : a ≠ 53 := off_ne ho (53, 0)
      have d3 : a ≠ 54 := off_ne ho (54, 0)
      have d4 : a ≠ 106 := off_ne ho (106, 0)
      have d5 : a ≠ 105 := off_ne ho (105, 0)
      have d6 : a ≠ 104 := off_ne ho (104, 0)
      rw [rd, if_neg (fun z => d4 z.1), if_neg (fun z => d5 z.1), if_neg (fun z => d6 z.1)]
      exact y0 a k (off_ne ho (49, 0)) (off_ne ho (50, 0)) (by omega)
    · intro t ht
      by_cases zt : t = s
      · subst zt
        have e49 := (rd 49 t).trans (show _ = x2 by rw [if_neg (by omega), if_neg (by omega), if_neg (by omega), y49, if_pos rfl])
        have e104 := (rd 104 t).trans (show _ = x2 by rw [if_neg (by omega), if_neg (by omega), if_pos ⟨rfl, rfl⟩])
        have e105 := (rd 105 t).trans (show _ = t0 by rw [if_neg (by omega), if_pos ⟨rfl, rfl⟩])
        have e50 := (rd 50 t).trans (show _ = gI Y 50 t by rw [if_neg (by omega), if_neg (by omega), if_neg (by omega)])
        rw [e49, e104, e105, e50]
        refine ⟨rfl, hx2, fun z => ?_⟩
        obtain ⟨a, b, c⟩ := y5 z
        refine ⟨a, b, fun i hi => ?_⟩
        rw [rd, rd, if_neg (by omega), if_neg (by omega), if_neg (by omega), if_pos ⟨rfl, by omega, by omega⟩]
        exact c i hi
      · have b := q t ht
        have e49 := (rd 49 t).trans (show _ = gI X 49 t by rw [if_neg (by omega), if_neg (by omega), if_neg (by omega), y49, if_neg zt])
        have e104 := (rd 104 t).trans (show _ = gI X 104 t by rw [if_neg (by omega), if_neg (by omega), if_neg (by omega), y0 104 t (by omega) (by omega) (by omega)])
        have e105 := (rd 105 t).trans (show _ = gI X 105 t by rw [if_neg (by omega), if_neg (by omega), if_neg (by omega), y0 105 t (by omega) (by omega) (by omega)])
        have e50 := (rd 50 t).trans (show _ = gI X 50 t by rw [if_neg (by omega), if_neg (by omega), if_neg (by omega), y50 t zt])
        rw [e49, e104, e105, e50]
        refine ⟨b.1, b.2.1, fun z => ⟨(b.2.2 z).1, (b.2.2 z).2.1, fun i hi => ?_⟩⟩
        rw [rd, rd, if_neg (by omega), if_neg (by omega), if_neg (by omega), if_neg (by omega), if_neg (by omega), if_neg (by omega), y0 (52 + t) i (by omega) (by omega) (by omega), y0 106 _ (by omega) (by omega) (by omega)]
        exact (b.2.2 z).2.2 i hi
  rw [cl]
  refine ⟨fun c3 => ⟨fun c4 => ⟨fun c5 => ?_, fun c5 => ?_⟩, fun c4 => ?_⟩, fun c3 => ⟨vi, _, S, rfl, ly_sI hL, R (ly_sI hL) ⟨fun z => bne c1 z, fun _ => ⟨fun z => bne c2 z, fun _ => ⟨fun _ => b_mo_sheet_30 (ly_sI hL) ⟨fun _ => b_mo_sheet_42 (ly_sI hL) ⟨vi, ?_⟩, fun z => absurd c3 z⟩, fun z => absurd c3 z⟩⟩⟩⟩⟩
  · have hx3 : ¬ x3 < 0 := Int32.not_lt.mpr c5
    obtain ⟨n, hn, e3⟩ := nI_of2 (M := 40) (n := 40) (by decide) hx3 c4
    obtain ⟨r1, r2⟩ := sh_ref hL hs3
    refine ⟨vi, vi, _, r1, r2, wh_n (s_ar_fill (ly_sI (ly_sI hL)) (at_sI (at_sI r2)) (by omega)) (ly_wI (ly_sI (ly_sI hL))) ?_⟩
    have ry : ∀ a k, gI (gp_wI (gp_sI (gp_sI X 49 s x2) 50 s x3) (fun i k => if i = 52 + s ∧ k < 40 then 0 else gI (gp_sI (gp_sI X 49 s x2) 50 s x3) i k)) a k = if a = 52 + s ∧ k < 40 then 0 else if a = 50 ∧ k = s then x3 else if a = 49 ∧ k = s then x2 else gI X a k := fun a k => rfl
    refine ⟨_, S, rfl, ly_wI (ly_sI (ly_sI hL)), R (ly_wI (ly_sI (ly_sI hL))) ⟨fun z => bne c1 z, fun _ => ⟨fun z => bne c2 z, fun _ => ⟨fun z => absurd z c3, fun _ => ⟨fun _ => b_mo_sheet_30 (ly_wI (ly_sI (ly_sI hL))) ⟨fun z => absurd z c3, fun _ => ⟨fun _ => b_mo_sheet_42 (ly_wI (ly_sI (ly_sI hL))) ⟨vi, ?_⟩, fun z => absurd c5 z⟩⟩, fun z => absurd c4 z⟩⟩⟩⟩⟩
    rw [cl]
    refine ⟨fun _ => fin _ x3 (ly_wI (ly_sI (ly_sI hL))) (fun a k d1 d2 d3 => ?_) (fun k => ?_) (fun k hk => ?_) (fun _ => ⟨?_, ⟨n, hn, e3⟩, fun k hk => ?_⟩), fun z => absurd z c3⟩
    · rw [ry, if_neg (by omega), if_neg (by omega), if_neg (by omega)]
    · rw [ry, if_neg (by omega), if_neg (by omega)]
      by_cases z : k = s
      · rw [if_pos ⟨rfl, z⟩, if_pos z]
      · rw [if_neg (fun y => z y.2), if_neg z]
    · rw [ry, if_neg (by omega), if_neg (by omega), if_neg (by omega)]
    · rw [ry, if_neg (by omega), if_pos ⟨rfl, rfl⟩]
    · rw [ry, if_pos ⟨rfl, hk⟩]
  · exact ⟨_, S, rfl, hL, R hL ⟨fun z => bne c1 z, fun _ => ⟨fun z => bne c2 z, fun _ => ⟨fun z => absurd z c3, fun _ => ⟨fun _ => b_mo_sheet_30 hL ⟨fun z => absurd z c3, fun _ => ⟨fun z => absurd z c5, fun _ => ⟨rfl, N, h⟩⟩⟩, fun z => absurd c4 z⟩⟩⟩⟩⟩
  · exact ⟨_, S, rfl, hL, R hL ⟨fun z => bne c1 z, fun _ => ⟨fun z => bne c2 z, fun _ => ⟨fun z => absurd z c3, fun _ => ⟨fun z => absurd z c4, fun _ => ⟨rfl, N, h⟩⟩⟩⟩⟩⟩
  · rw [cl]
    have ry : ∀ a k, gI (gp_sI X 49 s x2) a k = if a = 49 ∧ k = s then x2 else gI X a k := fun a k => rfl
    refine ⟨fun z => absurd c3 z, fun _ => fin _ 0 (ly_sI hL) (fun a k d1 d2 d3 => ?_) (fun k => ?_) (fun k hk => ?_) (fun z => absurd c3 z)⟩
    · rw [ry, if_neg (by omega)]
    · rw [ry]
      by_cases z : k = s
      · rw [if_pos ⟨rfl, z⟩, if_pos z]
      · rw [if_neg (fun y => z y.2), if_neg z]
    · rw [ry, if_neg (by omega)]
theorem p_lay {E : gp_E} {N : Nat → Nat} {S : gp_S} {X : gp_H} (h : Inv N S X) (x1 x2 x3 x4 : Int32) : Ev E m_ga_lay 0 [(0, .ref 0), (1, .int x1), (2, .int x2), (3, .int x3), (4, .int x4)] [] X (0, 0) (gp_two E m_mo_lay [(0, .ref 55), (1, .int x1), (2, .int x2), (3, .int x3), (4, .int x4)]) := by
  have hL := h.lay
  have l := l40 hL
  have q := h.she
  have R := fun {Y : gp_H} (lY : Lay S Y) (gY : Rf X Y) {Q} => show _ from by
    have := b_mo_lay_0 (E := E) (x1 := x1) (x2 := x2) (x3 := x3) (x4 := x4) (Q := Q) lY
    rw [gY 55 19 rfl, h.hom.1.2, gY 104 _ rfl] at this
    exact this
  have R2 := fun {Y : gp_H} (lY : Lay S Y) (gY : Rf X Y) {Q} => show _ from by
    have := b_mo_lay_52 (E := E) (x1 := x1) (x2 := x2) (x3 := x3) (x4 := x4) (Q := Q) lY
    rw [gY 104 _ rfl, gY 105 _ rfl, gY 106 _ rfl] at this
    exact this
  refine b_ga_lay_0 hL (wh_home h (fun j hj e => ?_) (fun c1 => ⟨_, S, rfl, hL, R hL (rf_0 X) ⟨fun z => bnf c1 z, fun _ => ⟨rfl, N, h⟩⟩⟩))
  subst e
  have c1 := iw_of hj (show S.1 ≤ 100000 by omega)
  have aH := (hm_at hL hj).2
  refine ⟨fun c2 => ⟨_, S, rfl, hL, R hL (rf_0 X) ⟨fun _ => ⟨fun _ => ⟨rfl, N, h⟩, fun z => bnf c2 z⟩, fun z => bne c1 z⟩⟩, fun c2 => ⟨fun c3 => ?_, fun c3 => ⟨_, S, rfl, hL, R hL (rf_0 X) ⟨fun _ => ⟨fun z => bne c2 z, fun _ => ⟨fun z => bnf c3 z, fun _ => ⟨rfl, N, h⟩⟩⟩, fun z => bne c1 z⟩⟩⟩⟩
  obtain ⟨s, hs, rfl⟩ := iw_lt (n := 2) 2 (by decide) c2
  have hs3 : s < 3 := by omega
  have vi : vp_in (nI s) 3 := vin (by omega) (by omega)
  obtain ⟨e1, e2, e3⟩ := q s hs3
  rw [nI_c (k := s) (by omega)] at R R2
  refine wh_i (s_isMissing hL hs3) hL ⟨aH, ?_⟩
  rw [nI_c (k := s) (by omega), e1, mis0]
  refine ⟨fun c4 => ⟨vi, fun c5 => ⟨vi, ?_⟩, fun c5 => ⟨_, S, rfl, hL, R hL (rf_0 X) ⟨fun _ => ⟨fun z => bne c2 z, fun _ => ⟨fun _ => ⟨vi, fun z => absurd z c4, fun _ => ⟨fun z => absurd z c5, fun _ => ⟨rfl, N, h⟩⟩⟩, fun z => bne c3 z⟩⟩, fun z => bne c1 z⟩⟩⟩, fun c4 => ?_⟩
  · obtain ⟨e4, ⟨n, hn, e5⟩, e6⟩ := e3 c4
    rw [e4, e5]
    rw [e5] at R2
    have top : ∀ {Y : gp_H} {Q : Option Value → gp_H → Prop} (lY : Lay S Y) (gY : Rf X Y), Ev E m_mo_lay 52 [(0, .ref 55), (1, .int (nI j)), (2, .int (nI s)), (3, .int x3), (4, .int x4)] [] Y (0, 0) Q → Ev E m_mo_lay 0 [(0, .ref 55), (1, .int (nI j)), (2, .int (nI s)), (3, .int x3), (4, .int x4)] [] Y (0, 0) Q := fun lY gY k => R lY gY ⟨fun _ => ⟨fun z => bne c2 z, fun _ => ⟨fun _ => ⟨vi, fun z => absurd z c4, fun _ => ⟨fun _ => k, fun z => absurd c5 z⟩⟩, fun z => bne c3 z⟩⟩, fun z => bne c1 z⟩
    refine ⟨fun c6 => ?_, fun c6 => ⟨_, S, rfl, hL, top hL (rf_0 X) (R2 hL (rf_0 X) ⟨vi, fun _ => ⟨fun _ => ⟨rfl, N, h⟩, fun z => bnf c6 z⟩, fun z => absurd z c4⟩)⟩⟩
    obtain ⟨i, hi, rfl⟩ := iw_nI (by omega) c6
    obtain ⟨r1, r2⟩ := sh_ref hL hs3
    refine ⟨vi, _, r1, r2, vin (by omega) (by omega), ?_⟩
    rw [nI_c (k := i) (by omega), e6 i (by omega)]
    rw [ix40, nI_c (k := 40 * s + i) (by omega)] at R2
    exact ⟨_, sv_two h hj _, fun r Y ⟨v, hr, lY, gY, aY, k⟩ => ⟨v, hr, lY, aY, v, S, rfl, lY, top lY gY (R2 lY gY ⟨vi, fun _ => ⟨fun z => bne c6 z, fun _ => ⟨vin (by omega) (by omega), _, k, fun r2 Z ⟨a, M, b⟩ => ⟨v, a, b.lay, rfl, M, b⟩⟩⟩, fun z => absurd z c4⟩)⟩⟩
  · have c4' : gI X 104 s = -1 := Classical.byContradiction (fun z => c4 z)
    refine ⟨_, S, rfl, hL, R hL (rf_0 X) ⟨fun _ => ⟨fun z => bne c2 z, fun _ => ⟨fun _ => ⟨vi, fun _ => R2 hL (rf_0 X) ⟨vi, fun z => absurd c4' z, fun _ => ⟨rfl, N, h⟩⟩, fun z => absurd c4' z⟩, fun z => bne c3 z⟩⟩, fun z => bne c1 z⟩⟩
