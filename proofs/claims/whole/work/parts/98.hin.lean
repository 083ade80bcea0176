theorem sm_z (n : Nat) : sm (fun _ => 0) n = 0 := by
  induction n with
  | zero => rfl
  | succ n ih => show sm (fun _ => 0) n + 0 = 0; rw [ih]; rfl
theorem sm_ad (f g : Nat → Int32) : ∀ n, sm (fun k => f k + g k) n = sm f n + sm g n
  | 0 => rfl
  | n + 1 => by
    show sm (fun k => f k + g k) n + (f n + g n) = sm f n + f n + (sm g n + g n)
    rw [sm_ad f g n, Int32.add_assoc, Int32.add_assoc, ← Int32.add_assoc (sm g n), Int32.add_comm (sm g n) (f n), Int32.add_assoc]
theorem sm_sb (f g : Nat → Int32) : ∀ n, sm (fun k => f k - g k) n = sm f n - sm g n
  | 0 => by show (0 : Int32) = 0 - 0; decide
  | n + 1 => by
    show sm (fun k => f k - g k) n + (f n - g n) = sm f n + f n - (sm g n + g n)
    rw [sm_sb f g n]
    simp only [Int32.sub_eq_add_neg, Int32.neg_add]
    rw [Int32.add_assoc, Int32.add_assoc, ← Int32.add_assoc (-sm g n), Int32.add_comm (-sm g n) (f n), Int32.add_assoc]
theorem sm_one {a : Nat} {v : Int32} : ∀ n, sm (fun k => if k = a then v else 0) n = if a < n then v else 0
  | 0 => rfl
  | n + 1 => by
    show sm (fun k => if k = a then v else 0) n + (if n = a then v else 0) = _
    rw [sm_one n]
    by_cases z : n = a
    · rw [if_pos z, if_neg (by omega), if_pos (by omega), Int32.zero_add]
    · rw [if_neg z, Int32.add_zero]
      by_cases z2 : a < n
      · rw [if_pos z2, if_pos (by omega)]
      · rw [if_neg z2, if_neg (by omega)]
theorem sm_sw (g : Nat → Bool) (F : Nat → Nat → Int32) (K : Nat) : ∀ n, sm (fun k => if g k = true then sm (F k) n else 0) K = sm (fun j => sm (fun k => if g k = true then F k j else 0) K) n
  | 0 => by
    show sm (fun k => if g k = true then 0 else 0) K = 0
    rw [show (fun k => if g k = true then (0 : Int32) else 0) = fun _ => 0 from funext fun k => by split <;> rfl, sm_z]
  | n + 1 => by
    show sm (fun k => if g k = true then sm (F k) n + F k n else 0) K = sm (fun j => sm (fun k => if g k = true then F k j else 0) K) n + sm (fun k => if g k = true then F k n else 0) K
    rw [← sm_sw g F K n, ← sm_ad]
    refine sm_congr (fun k _ => ?_)
    split
    · rfl
    · rfl
section HIN
variable {E : gp_E} {N : Nat → Nat} {S : gp_S} {X Y : gp_H}
/-- scratch cells are nobody's -/
theorem inv_scr (h : Inv N S X) (l : Lay S Y) (hf : ∀ a k, a ≠ 27 → a ≠ 28 → a ≠ 29 → a ≠ 30 → gI Y a k = gI X a k) : Inv N S Y := by
  have hx := X_w (f := gI Y) [(27, 0), (28, 0), (29, 0), (30, 0)] false (X_0 h) (fun a k ho _ => hf a k (off_ne ho (27, 0)) (off_ne ho (28, 0)) (off_ne ho (29, 0)) (off_ne ho (30, 0)))
  have hx := invx_ext hx l (fun _ _ => rfl)
  exact ⟨hx.1, (hx.2.1 rfl), (hx.2.2.1 rfl), (hx.2.2.2.1 rfl), (hx.2.2.2.2.1 rfl), (hx.2.2.2.2.2.1 rfl), (hx.2.2.2.2.2.2.1 rfl), (hx.2.2.2.2.2.2.2.1 rfl), (hx.2.2.2.2.2.2.2.2.1 rfl), (hx.2.2.2.2.2.2.2.2.2.1 rfl), (hx.2.2.2.2.2.2.2.2.2.2.1 rfl), (hx.2.2.2.2.2.2.2.2.2.2.2.1 rfl), (hx.2.2.2.2.2.2.2.2.2.2.2.2.1 rfl), (hx.2.2.2.2.2.2.2.2.2.2.2.2.2.1 rfl), (hx.2.2.2.2.2.2.2.2.2.2.2.2.2.2.1 rfl), (hx.2.2.2.2.2.2.2.2.2.2.2.2.2.2.2.1 rfl), (hx.2.2.2.2.2.2.2.2.2.2.2.2.2.2.2.2.1 rfl), (hx.2.2.2.2.2.2.2.2.2.2.2.2.2.2.2.2.2.1 rfl), (hx.2.2.2.2.2.2.2.2.2.2.2.2.2.2.2.2.2.2.1 rfl), (hx.2.2.2.2.2.2.2.2.2.2.2.2.2.2.2.2.2.2.2.1 rfl), (hx.2.2.2.2.2.2.2.2.2.2.2.2.2.2.2.2.2.2.2.2.1 rfl), (hx.2.2.2.2.2.2.2.2.2.2.2.2.2.2.2.2.2.2.2.2.2 rfl)⟩
/-- LACK of a knot -/
def hmK (X : gp_H) (k j : Nat) : Int32 := if ¬ gI X 74 j = 2 ∧ gI X 70 j = nI k then gI X 71 j else 0
def wkK (X : gp_H) (k w : Nat) : Int32 := if ¬ gI X 63 w = 0 ∧ gI X 60 w = nI k then gI X 61 w else 0
def lkV (N : Nat → Nat) (S : gp_S) (X : gp_H) (k : Nat) : Int32 := sm (hmK X k) S.1 - sm (wkK X k) (N 2)
theorem s_ga_countLack (h : Inv N S X) : Ev E m_ga_countLack 0 [(0, .ref 0)] [] X (0, 0) (gp_q none (gp_wI X (fun a k => if a = 27 ∧ k < 12 then lkV N S X k else gI X a k))) := by
  have hX := h.lay
  have l := l40 hX
  have hn := h.net.1
  obtain ⟨⟨h1, h2⟩, hq⟩ := h.hom
  obtain ⟨⟨w1, w2, w3⟩, wq, wr, -⟩ := h.wrk
  refine b_ga_countLack_0 hX (wh_n (s_ar_fill hX (ly_at hX 27 rfl) (by omega)) (ly_wI hX) ?_)
  have works : Ev E m_ga_countLack 67 [(0, .ref 0), (1, .ref 27), (2, .int 0)] [] (gp_wI X (fun a k => if a = 27 ∧ k < 12 then sm (hmK X k) S.1 else gI X a k)) (0, 0) (gp_q none (gp_wI X (fun a k => if a = 27 ∧ k < 12 then lkV N S X k else gI X a k))) := by
    have e0 : (fun a k => if a = 27 ∧ k < 12 then sm (hmK X k) S.1 - sm (wkK X k) 0 else gI X a k) = (fun a k => if a = 27 ∧ k < 12 then sm (hmK X k) S.1 else gI X a k) := by
      funext a k
      show (if a = 27 ∧ k < 12 then sm (hmK X k) S.1 - 0 else gI X a k) = _
      rw [Int32.sub_zero]
    rw [← e0]
    refine dn (P := fun q => Ev E m_ga_countLack 67 [(0, .ref 0), (1, .ref 27), (2, .int (nI q))] [] (gp_wI X (fun a k => if a = 27 ∧ k < 12 then sm (hmK X k) S.1 - sm (wkK X k) q else gI X a k)) (0, 0) (gp_q none (gp_wI X (fun a k => if a = 27 ∧ k < 12 then lkV N S X k else gI X a k)))) (n := N 2) ?_ ?_
    · exact b_ga_countLack_67 (ly_wI hX) ⟨fun _ => ⟨rfl, rfl⟩, fun z => absurd (show gI X 1 9 ≤ nI (N 2) by rw [w1]; exact Int32.le_refl _) z⟩
    · intro q hq' ih
      obtain ⟨i, m, c, p1, p2, p3, p4, p5, -⟩ := wr q hq'
      have e : ∀ a k, a ≠ 27 → gI (gp_wI X (fun a k => if a = 27 ∧ k < 12 then sm (hmK X k) S.1 - sm (wkK X k) q else gI X a k)) a k = gI X a k := fun a k h => if_neg (fun z => h z.1)
      refine b_ga_countLack_67 (ly_wI hX) ⟨fun z => absurd z (by rw [e 1 9 (by decide), w1]; exact nI_nge hq' (by omega)), fun _ => ⟨vin (by omega) (by omega), ?_⟩⟩
      rw [nI_c (k := q) (by omega), e 11 q (by decide), e 8 q (by decide), e 9 q (by decide), (wq q).1, (wq q).2.1, (wq q).2.2.2, p2, nI_c (k := i) (by omega), nI_s]
      refine ⟨fun c => ?_, fun c => ⟨vin (by omega) (by omega), ?_⟩⟩
      · have hh : (fun a k => if a = 27 ∧ k < 12 then sm (hmK X k) S.1 - sm (wkK X k) (q + 1) else gI X a k) = (fun a k => if a = 27 ∧ k < 12 then sm (hmK X k) S.1 - sm (wkK X k) q else gI X a k) := by
          funext a k
          rw [sm_0 (f := wkK X k) (if_neg (fun z => z.1 c))]
        rw [hh] at ih; exact ih
      · have hh : gp_sI (gp_wI X (fun a k => if a = 27 ∧ k < 12 then sm (hmK X k) S.1 - sm (wkK X k) q else gI X a k)) 27 i (gI (gp_wI X (fun a k => if a = 27 ∧ k < 12 then sm (hmK X k) S.1 - sm (wkK X k) q else gI X a k)) 27 i - gI X 61 q) = gp_wI X (fun a k => if a = 27 ∧ k < 12 then sm (hmK X k) S.1 - sm (wkK X k) (q + 1) else gI X a k) := by
          refine congrArg (gp_wI X) (funext fun a => funext fun k => ?_)
          show (if a = 27 ∧ k = i then (if 27 = 27 ∧ i < 12 then sm (hmK X i) S.1 - sm (wkK X i) q else gI X 27 i) - gI X 61 q else if a = 27 ∧ k < 12 then sm (hmK X k) S.1 - sm (wkK X k) q else gI X a k) = (if a = 27 ∧ k < 12 then sm (hmK X k) S.1 - sm (wkK X k) (q + 1) else gI X a k)
          by_cases z1 : a = 27 ∧ k < 12
          · rw [if_pos z1]
            by_cases z2 : k = i
            · subst z2
              rw [if_pos ⟨z1.1, rfl⟩, if_pos ⟨rfl, z1.2⟩, if_pos z1, sm_1 (f := wkK X k) (v := gI X 61 q) (if_pos ⟨c, p2⟩)]
              simp only [Int32.sub_eq_add_neg, Int32.neg_add, Int32.add_assoc]
            · rw [if_neg (fun z => z2 z.2), if_pos z1, sm_0 (f := wkK X k) (if_neg (fun z => z2 ((nI_eq (by omega) (by omega)).mp (z.2.symm.trans p2))))]
          · rw [if_neg z1, if_neg (fun z => z1 ⟨z.1, by omega⟩), if_neg z1]
        rw [hh]; exact ih
  refine dn (P := fun j => Ev E m_ga_countLack 15 [(0, .ref 0), (1, .ref 27), (2, .int (nI j))] [] (gp_wI X (fun a k => if a = 27 ∧ k < 12 then sm (hmK X k) j else gI X a k)) (0, 0) (gp_q none (gp_wI X (fun a k => if a = 27 ∧ k < 12 then lkV N S X k else gI X a k)))) (n := S.1) ?_ ?_
  · exact b_ga_countLack_15 (ly_wI hX) ⟨fun _ => works, fun z => absurd (show gI X 0 6 ≤ nI S.1 by rw [h1]; exact Int32.le_refl _) z⟩
  · intro j hj ih
    obtain ⟨⟨a0, a1, a2, a3, a4, -⟩, ⟨i, b, c, p1, p2, p3, p4, p5, -⟩, -⟩ := hq j hj
    have hb := hm_big hX hj
    obtain ⟨r1, r2⟩ := hm_at hX hj
    have vi : vp_in (nI j) 40 := vin (by omega) (by omega)
    have cl : Int32.toNatClampNeg (nI j) = j := nI_c (by omega)
    have e : ∀ a k, a ≠ 27 → gI (gp_wI X (fun a k => if a = 27 ∧ k < 12 then sm (hmK X k) j else gI X a k)) a k = gI X a k := fun a k h => if_neg (fun z => h z.1)
    have rr : (gp_wI X (fun a k => if a = 27 ∧ k < 12 then sm (hmK X k) j else gI X a k)).2.2.1 16 (Int32.toNatClampNeg (nI j)) = some (S.2.2.1 j) := by rw [cl]; exact r1
    refine b_ga_countLack_15 (ly_wI hX) ⟨fun z => absurd z (by rw [e 0 6 (by decide), h1]; exact nI_nge hj (by omega)), fun _ => ⟨vi, _, rr, at_wI r2, ?_⟩⟩
    rw [e (S.2.2.1 j) 4 (by omega), a4, nI_s]
    refine ⟨fun c => ?_, fun c => ⟨vi, _, rr, at_wI r2, ?_⟩⟩
    · have hh : (fun a k => if a = 27 ∧ k < 12 then sm (hmK X k) (j + 1) else gI X a k) = (fun a k => if a = 27 ∧ k < 12 then sm (hmK X k) j else gI X a k) := by
        funext a k
        rw [sm_0 (f := hmK X k) (if_neg (fun z => z.1 c))]
      rw [hh] at ih; exact ih
    · rw [e (S.2.2.1 j) 0 (by omega), a0, p2, nI_c (k := i) (by omega)]
      refine ⟨vin (by omega) (by omega), vi, _, rr, at_wI r2, ?_⟩
      rw [e (S.2.2.1 j) 1 (by omega), a1]
      have hh : gp_sI (gp_wI X (fun a k => if a = 27 ∧ k < 12 then sm (hmK X k) j else gI X a k)) 27 i (gI (gp_wI X (fun a k => if a = 27 ∧ k < 12 then sm (hmK X k) j else gI X a k)) 27 i + gI X 71 j) = gp_wI X (fun a k => if a = 27 ∧ k < 12 then sm (hmK X k) (j + 1) else gI X a k) := by
        refine congrArg (gp_wI X) (funext fun a => funext fun k => ?_)
        show (if a = 27 ∧ k = i then (if 27 = 27 ∧ i < 12 then sm (hmK X i) j else gI X 27 i) + gI X 71 j else if a = 27 ∧ k < 12 then sm (hmK X k) j else gI X a k) = (if a = 27 ∧ k < 12 then sm (hmK X k) (j + 1) else gI X a k)
        by_cases z1 : a = 27 ∧ k < 12
        · rw [if_pos z1]
          by_cases z2 : k = i
          · subst z2
            rw [if_pos ⟨z1.1, rfl⟩, if_pos ⟨rfl, z1.2⟩, if_pos z1, sm_1 (f := hmK X k) (v := gI X 71 j) (if_pos ⟨c, p2⟩)]
          · rw [if_neg (fun z => z2 z.2), if_pos z1, sm_0 (f := hmK X k) (if_neg (fun z => z2 ((nI_eq (by omega) (by omega)).mp (z.2.symm.trans p2))))]
        · rw [if_neg z1, if_neg (fun z => z1 ⟨z.1, by omega⟩), if_neg z1]
      rw [hh]; exact ih
/-- the lack within a set -/
theorem lk_set (h : Inv N S X) (g : Int32) : sm (fun k => if gb g (nI k) = true then lkV N S X k else 0) (N 0) = usS S X g 0 - mkS N X g := by
  have hn := h.net.1
  have e1 : sm (fun k => if gb g (nI k) = true then lkV N S X k else 0) (N 0) = sm (fun k => if gb g (nI k) = true then sm (hmK X k) S.1 else 0) (N 0) - sm (fun k => if gb g (nI k) = true then sm (wkK X k) (N 2) else 0) (N 0) := by
    rw [← sm_sb]
    refine sm_congr (fun k _ => ?_)
    split
    · rfl
    · rfl
  rw [e1, sm_sw (fun k => gb g (nI k)) (hmK X), sm_sw (fun k => gb g (nI k)) (wkK X)]
  have e2 : sm (fun j => sm (fun k => if gb g (nI k) = true then hmK X k j else 0) (N 0)) S.1 = usS S X g 0 := sm_congr (fun j hj => by
    obtain ⟨-, ⟨i, b, c, p1, p2, -⟩, -⟩ := h.hom.2 j hj
    have : sm (fun k => if gb g (nI k) = true then hmK X k j else 0) (N 0) = sm (fun k => if k = i then usF X g 0 j else 0) (N 0) := sm_congr (fun k hk => by
      unfold hmK usF
      rw [p2]
      by_cases z : k = i
      · subst z
        rw [if_pos rfl]
        by_cases z1 : gb g (nI k) = true
        · rw [if_pos z1]
          by_cases z2 : gI X 74 j = 2
          · rw [if_neg (fun y => y.1 z2), if_neg (fun y => y.1.elim (fun y => y.2 z2) (fun y => y.1 rfl))]
          · rw [if_pos ⟨z2, rfl⟩, if_pos ⟨Or.inl ⟨rfl, z2⟩, z1⟩]
        · rw [if_neg z1, if_neg (fun y => z1 y.2)]
      · have no : ¬ (¬ gI X 74 j = 2 ∧ nI i = nI k) := fun y => z ((nI_eq (by omega) (by omega)).mp y.2).symm
        rw [if_neg z, if_neg no]
        split <;> rfl)
    rw [this, sm_one, if_pos p1])
  have e3 : sm (fun w => sm (fun k => if gb g (nI k) = true then wkK X k w else 0) (N 0)) (N 2) = mkS N X g := sm_congr (fun w hw => by
    obtain ⟨i, m, c, p1, p2, -⟩ := h.wrk.2.2.1 w hw
    have : sm (fun k => if gb g (nI k) = true then wkK X k w else 0) (N 0) = sm (fun k => if k = i then mkF X g w else 0) (N 0) := sm_congr (fun k hk => by
      unfold wkK mkF
      rw [p2]
      by_cases z : k = i
      · subst z
        rw [if_pos rfl]
        by_cases z1 : gb g (nI k) = true
        · rw [if_pos z1]
          by_cases z2 : gI X 63 w = 0
          · rw [if_neg (fun y => y.1 z2), if_neg (fun y => y.1 z2)]
          · rw [if_pos ⟨z2, rfl⟩, if_pos ⟨z2, z1⟩]
        · rw [if_neg z1, if_neg (fun y => z1 y.2)]
      · have no : ¬ (¬ gI X 63 w = 0 ∧ nI i = nI k) := fun y => z ((nI_eq (by omega) (by omega)).mp y.2).symm
        rw [if_neg z, if_neg no]
        split <;> rfl)
    rw [this, sm_one, if_pos p1])
  rw [e2, e3]
theorem lk_le (h : Inv N S X) (g : Int32) : usS S X g 0 - mkS N X g ≤ 0 ↔ usS S X g 0 ≤ mkS N X g := by
  obtain ⟨u, hu, eu⟩ := us_nat h g 0
  obtain ⟨m, hm, em, -⟩ := mk_nat h g
  rw [eu, em, nI_leI (by omega) (by omega), Int32.le_iff_toInt_le, pk_sub_toInt (by omega) (by omega)]
  show (u : Int) - m ≤ 0 ↔ _
  omega
theorem s_se_lackIn (h : Inv N S Y) (lk : ∀ k, k < 12 → gI Y 27 k = lkV N S Y k) (g : Int32) : Ev E m_se_lackIn 0 [(0, .ref 23), (1, .int g)] [] Y (0, 0) (gp_q (some (.int (usS S Y g 0 - mkS N Y g))) Y) := by
  have hX := h.lay
  have hn := h.net.1
  rw [← lk_set h g]
  refine b_se_lackIn_0 hX ?_
  refine dn (P := fun k => Ev E m_se_lackIn 4 [(0, .ref 23), (1, .int g), (2, .int (sm (fun k => if gb g (nI k) = true then lkV N S Y k else 0) k)), (3, .int (nI k))] [] Y (0, 0) (gp_q (some (.int (sm (fun k => if gb g (nI k) = true then lkV N S Y k else 0) (N 0)))) Y)) (n := N 0) ?_ ?_
  · exact b_se_lackIn_4 hX ⟨fun _ => ⟨rfl, rfl⟩, fun z => absurd (by rw [hn.1]; exact Int32.le_refl _) z⟩
  · intro k hk ih
    refine b_se_lackIn_4 hX ⟨fun z => absurd z (by rw [hn.1]; exact nI_nge hk (by omega)), fun _ => ⟨fun c => ?_, fun c => ⟨vin (by omega) (by omega), ?_⟩⟩⟩
    · rw [sm_0 (if_neg (fun z => bnf c z))] at ih; rw [nI_s]; exact ih
    · rw [sm_1 (if_pos c)] at ih; rw [nI_c (by omega), nI_s, lk k (by omega)]; exact ih
/-- SUPPLIED: the rest of a set, group by group -/
def rest_ (N : Nat → Nat) (d : Int32) : Int32 := allm (N 0) &&& (d ^^^ (-1))
noncomputable def grp (N : Nat → Nat) (X : gp_H) (d : Int32) (k : Nat) : Int32 := rch N X ((1 : Int32) <<< (nI k &&& 31)) (rest_ N d) 0
def Sup (N : Nat → Nat) (S : gp_S) (X : gp_H) (d : Int32) (k : Nat) : Prop := usS S X (grp N X d k) 0 ≤ mkS N X (grp N X d k)
theorem rest_low (h : Inv N S X) (d : Int32) : low (N 0) (rest_ N d) := low_and' (low_all (by have := h.net.1.2.2; omega))
theorem rest_12 (h : Inv N S X) (d : Int32) : low 12 (rest_ N d) := low_mono (rest_low h d) h.net.1.2.2
theorem grp_in {d : Int32} {k i : Nat} (h : bt (grp N X d k) i = true) : bt (rest_ N d) i = true := rc_m ((ST_bt (bt_32 h)).mp h)
theorem grp_self {d : Int32} {k : Nat} (h : bt (rest_ N d) k = true) : bt (grp N X d k) k = true := (ST_bt (bt_32 h)).mpr (clo_0 ((one_S (bt_32 h)).mpr ⟨rfl, h⟩))
theorem grp_eq {d : Int32} {k i : Nat} (hk : k < 32) (h : bt (grp N X d k) i = true) : grp N X d i = grp N X d k := by
  have hi := bt_32 h
  have c : Clo (spS ((1 : Int32) <<< (nI k &&& 31)) (rest_ N d)) (rcR N X (rest_ N d) 0) i := (ST_bt hi).mp h
  refine ST_cg (fun j hj => ⟨fun q => clo_tr q (fun x hx => ?_), fun q => clo_tr q (fun x hx => ?_)⟩)
  · obtain ⟨rfl, -⟩ := (one_S hi).mp hx; exact c
  · obtain ⟨rfl, -⟩ := (one_S hk).mp hx; exact rc_sym hk c
theorem sup_loop (h : Inv N S Y) (lk : ∀ k, k < 12 → gI Y 27 k = lkV N S Y k) {d : Int32} {V : Int32} (hV1 : (∀ k, bt (rest_ N d) k = true → Sup N S Y d k) → V = 1) (hV0 : ∀ k, bt (rest_ N d) k = true → ¬ Sup N S Y d k → V = 0) : ∀ (n r : Nat) (t : Int32), n + r = 12 → (∀ i, bt t i = true → bt (rest_ N d) i = true) → (∀ i, bt (rest_ N d) i = true → bt t i = false → Sup N S Y d i) → r ≤ ct (fun i => bt (rest_ N d) i && !bt t i) 12 →
    Ev E m_se_restIsSupplied 17 [(0, .ref 23), (1, .int d), (2, .int (rest_ N d)), (3, .int t), (4, .int (nI r))] [] Y (0, 0) (gp_q (some (.int V)) Y) := by
  have hX := h.lay
  have r12 := rest_12 h d
  have fin : ∀ t : Int32, (∀ i, bt t i = false) → (∀ i, bt (rest_ N d) i = true → bt t i = false → Sup N S Y d i) → gp_q (some (.int V)) Y (some (.int 1)) Y := fun t h0 h1 => ⟨by rw [hV1 (fun k hk => h1 k hk (h0 k))], rfl⟩
  intro n
  induction n with
  | zero =>
    intro r t hr ht hs hc
    obtain rfl : r = 12 := by omega
    refine b_se_restIsSupplied_17 hX ⟨fun _ => fin t (fun i => ?_) hs, fun z => absurd (Int32.le_refl _) z⟩
    cases z : bt t i with
    | false => rfl
    | true =>
      have := ct_full hc i (bt_lt r12 (ht i z))
      rw [z, Bool.not_true, Bool.and_false] at this
      exact absurd this (by decide)
  | succ n ih =>
    intro r t hr ht hs hc
    refine b_se_restIsSupplied_17 hX ⟨fun z => absurd z (nI_nge (a := r) (b := 12) (by omega) (by omega)), fun _ => ⟨fun z => fin t (fun i => by rw [z, b_0]) hs, fun z => ?_⟩⟩
    have tl : low 12 t := fun i hi => by
      cases q : bt t i with
      | false => rfl
      | true => exact absurd (bt_lt r12 (ht i q)) (by omega)
    obtain ⟨k, hk, e1, e2, -⟩ := lowP tl z
    refine wh_i (s_ga_lowestIn hX t) hX ?_
    rw [e1]
    refine wh_i (s_spread6 h hX (cf_0 Y) r12) hX (wh_i (s_se_lackIn h lk _) hX ?_)
    rw [lk_le h]
    have kr := ht k e2
    refine ⟨fun c => ?_, fun c => ⟨by rw [hV0 k kr c], rfl⟩⟩
    rw [nI_s]
    have bb : ∀ i, i < 32 → bt (t &&& (grp N Y d k ^^^ (-1))) i = (bt t i && !bt (grp N Y d k) i) := fun i hi => by rw [b_and, bt_not _ hi]
    refine ih (r + 1) _ (by omega) (fun i hi => ?_) (fun i hi hn => ?_) ?_
    · have := bb i (bt_32 hi)
      have hi' : bt (t &&& (grp N Y d k ^^^ (-1))) i = true := hi
      rw [this, Bool.and_eq_true] at hi'
      exact ht i hi'.1
    · have l32 := bt_32 hi
      have hn' : bt (t &&& (grp N Y d k ^^^ (-1))) i = false := hn
      rw [bb i l32] at hn'
      cases q : bt t i with
      | false => exact hs i hi q
      | true =>
        rw [q, Bool.true_and, Bool.not_eq_false'] at hn'
        show usS S Y (grp N Y d i) 0 ≤ mkS N Y (grp N Y d i)
        rw [grp_eq (by omega) hn']
        exact c
    · refine Nat.lt_of_le_of_lt hc (ct_lt (k := k) (fun i hi q => ?_) hk ?_ ?_)
      · simp only [Bool.and_eq_true, Bool.not_eq_true'] at q ⊢
        refine ⟨q.1, ?_⟩
        show bt (t &&& (grp N Y d k ^^^ (-1))) i = false
        rw [bb i (by omega), q.2]; rfl
      · show (bt (rest_ N d) k && !bt t k) = false
        rw [e2, Bool.not_true, Bool.and_false]
      · show (bt (rest_ N d) k && !bt (t &&& (grp N Y d k ^^^ (-1))) k) = true
        rw [bb k (by omega), kr, grp_self kr, Bool.not_true, Bool.and_false]; rfl
theorem s_se_restIsSupplied (h : Inv N S Y) (lk : ∀ k, k < 12 → gI Y 27 k = lkV N S Y k) {d V : Int32} (hV1 : (∀ k, bt (rest_ N d) k = true → Sup N S Y d k) → V = 1) (hV0 : ∀ k, bt (rest_ N d) k = true → ¬ Sup N S Y d k → V = 0) : Ev E m_se_restIsSupplied 0 [(0, .ref 23), (1, .int d)] [] Y (0, 0) (gp_q (some (.int V)) Y) := by
  refine b_se_restIsSupplied_0 h.lay ?_
  rw [h.net.1.1]
  exact sup_loop h lk hV1 hV0 12 0 _ rfl (fun i hi => hi) (fun i h1 h2 => absurd (h1.symm.trans h2) (by decide)) (Nat.zero_le _)
/-- BORDERS -/
def bdr (X : gp_H) (d : Int32) (p : Nat) : Prop := ¬ gb d (gI X 56 p) = gb d (gI X 57 p)
theorem bz_eq {a b : Bool} : bz a = bz b ↔ a = b := by cases a <;> cases b <;> decide
theorem s_ne_crosses (h : Inv N S X) (hX : Lay S Y) (g : Cf X Y) {p : Nat} (hp : p < 20) {d V : Int32} (h1 : bdr X d p → V = 1) (h0 : ¬ bdr X d p → V = 0) : Ev E m_ne_crosses 0 [(0, .ref 1), (1, .int (nI p)), (2, .int d)] [] Y (0, 0) (gp_q (some (.int V)) Y) := by
  obtain ⟨-, -, q1, -⟩ := h.net
  refine b_ne_crosses_0 hX ⟨vin hp (by omega), ?_⟩
  rw [nI_c (by omega), g 2 _ rfl, g 3 _ rfl, (q1 p).1, (q1 p).2.1, bz_eq]
  exact ⟨fun c => ⟨by rw [h0 (fun z => z c)], rfl⟩, fun c => ⟨by rw [h1 c], rfl⟩⟩
theorem s_mo_isBorder (h : Inv N S X) (hX : Lay S Y) (g : Rf X Y) {p : Nat} (hp : p < 20) {d V : Int32} (h1 : bdr X d p → V = 1) (h0 : ¬ bdr X d p → V = 0) : Ev E m_mo_isBorder 0 [(0, .ref 55), (1, .int (nI p)), (2, .int d)] [] Y (0, 0) (gp_q (some (.int V)) Y) := by
  refine b_mo_isBorder_0 hX ⟨vin hp (by omega), ?_⟩
  rw [nI_c (by omega), g 56 _ rfl, g 57 _ rfl, bz_eq]
  exact ⟨fun c => ⟨by rw [h0 (fun z => z c)], rfl⟩, fun c => ⟨by rw [h1 c], rfl⟩⟩
def Prt (N : Nat → Nat) (X : gp_H) (d : Int32) : Prop := ∀ p, p < N 1 → bdr X d p → ¬ gI X 58 p = 0
theorem bdr_dec (X : gp_H) (d : Int32) (p : Nat) : bdr X d p ∨ ¬ bdr X d p := Classical.em _
theorem s_ne_canBeParted (h : Inv N S X) {d V : Int32} (h1 : Prt N X d → V = 1) (h0 : ¬ Prt N X d → V = 0) : Ev E m_ne_canBePartedFromRest 0 [(0, .ref 1), (1, .int d)] [] X (0, 0) (gp_q (some (.int V)) X) := by
  have hX := h.lay
  obtain ⟨-, ⟨k1, k2, k3⟩, q1, -⟩ := h.net
  have key := dn (P := fun k => (∀ p, p < k → bdr X d p → ¬ gI X 58 p = 0) → Ev E m_ne_canBePartedFromRest 2 [(0, .ref 1), (1, .int d), (2, .int (nI k))] [] X (0, 0) (gp_q (some (.int V)) X)) (n := N 1) (fun a => b_ne_canBePartedFromRest_2 hX ⟨fun _ => ⟨by rw [h1 a], rfl⟩, fun z => absurd (by rw [k1]; exact Int32.le_refl _) z⟩) (fun k hk ih a => by
    refine b_ne_canBePartedFromRest_2 hX ⟨fun z => absurd z (by rw [k1]; exact nI_nge hk (by omega)), fun _ => ?_⟩
    have nx : (bdr X d k → ¬ gI X 58 k = 0) → Ev E m_ne_canBePartedFromRest 2 [(0, .ref 1), (1, .int d), (2, .int (nI k + 1))] [] X (0, 0) (gp_q (some (.int V)) X) := fun c => by
      rw [nI_s]
      exact ih (fun p hp => by
        rcases Nat.lt_or_ge p k with z | z
        · exact a p z
        · rw [show p = k by omega]; exact c)
    rcases bdr_dec X d k with b | b
    · refine wh_i (s_ne_crosses h hX (cf_0 X) (by omega) (V := 1) (fun _ => rfl) (fun z => absurd b z)) hX ⟨fun z => absurd z (by decide), fun _ => ⟨vin (by omega) (by omega), ?_⟩⟩
      rw [nI_c (by omega), (q1 k).2.2.1]
      exact ⟨fun c => nx (fun _ => c), fun c => ⟨by rw [h0 (fun z => z k hk b c)], rfl⟩⟩
    · exact wh_i (s_ne_crosses h hX (cf_0 X) (by omega) (V := 0) (fun z => absurd z b) (fun _ => rfl)) hX ⟨fun _ => nx (fun z => absurd z b), fun z => absurd rfl z⟩)
  exact b_ne_canBePartedFromRest_0 hX (key (fun p hp => absurd hp (Nat.not_lt_zero _)))
/-- what hinders: 2 the border, 3 the new gas, 4 the rest -/
def HdV (N : Nat → Nat) (S : gp_S) (X : gp_H) (d s V : Int32) : Prop := (¬ Prt N X d → V = 2) ∧ (Prt N X d → ¬ s &&& (rch N X (teS X) d 0 ^^^ (-1)) = 0 → V = 3) ∧ (∀ k, Prt N X d → s &&& (rch N X (teS X) d 0 ^^^ (-1)) = 0 → bt (rest_ N d) k = true → ¬ Sup N S X d k → V = 4) ∧ (Prt N X d → s &&& (rch N X (teS X) d 0 ^^^ (-1)) = 0 → (∀ k, bt (rest_ N d) k = true → Sup N S X d k) → V = 0)
theorem hd_ex (N : Nat → Nat) (S : gp_S) (X : gp_H) (d s : Int32) : ∃ V, HdV N S X d s V ∧ (V = 0 ↔ (Prt N X d ∧ s &&& (rch N X (teS X) d 0 ^^^ (-1)) = 0 ∧ ∀ k, bt (rest_ N d) k = true → Sup N S X d k)) := by
  by_cases a : Prt N X d
  · by_cases b : s &&& (rch N X (teS X) d 0 ^^^ (-1)) = 0
    · by_cases c : ∀ k, bt (rest_ N d) k = true → Sup N S X d k
      · exact ⟨0, ⟨fun z => absurd a z, fun _ z => absurd b z, fun k _ _ z1 z2 => absurd (c k z1) z2, fun _ _ _ => rfl⟩, ⟨fun _ => ⟨a, b, c⟩, fun _ => rfl⟩⟩
      · exact ⟨4, ⟨fun z => absurd a z, fun _ z => absurd b z, fun _ _ _ _ _ => rfl, fun _ _ z => absurd z c⟩, ⟨fun z => absurd z (by decide), fun z => absurd z.2.2 c⟩⟩
    · exact ⟨3, ⟨fun z => absurd a z, fun _ _ => rfl, fun _ _ z => absurd z b, fun _ z => absurd z b⟩, ⟨fun z => absurd z (by decide), fun z => absurd z.2.1 b⟩⟩
  · exact ⟨2, ⟨fun _ => rfl, fun z => absurd z a, fun _ z => absurd z a, fun z => absurd z a⟩, ⟨fun z => absurd z (by decide), fun z => absurd z.1 a⟩⟩
theorem s_mo_hinders (h : Inv N S X) (hX : Lay S Y) (g : Rf X Y) {d s V : Int32} (hd : low 12 d) (hv : HdV N S X d s V) : Ev E m_mo_hinders 0 [(0, .ref 55), (1, .int d), (2, .int s)] [] Y (0, 0) (gp_q (some (.int V)) Y) := by
  obtain ⟨v2, v3, v4, v0⟩ := hv
  obtain ⟨⟨n1, n2, n3⟩, ⟨k1, k2, k3⟩, q1, q2, q3, q4, q5, q6, q7, q8⟩ := h.net
  have r12 := rest_12 h d
  have sup : ∀ x3 : Int32, Prt N X d → s &&& (rch N X (teS X) d 0 ^^^ (-1)) = 0 → Ev E m_mo_hinders 82 [(0, .ref 55), (1, .int d), (2, .int s), (3, .int x3), (4, .int (rest_ N d)), (5, .int 0)] [] Y (0, 0) (gp_q (some (.int V)) Y) := by
    intro x3 a b
    refine dn (P := fun k => (∀ i, i < k → bt (rest_ N d) i = true → Sup N S X d i) → Ev E m_mo_hinders 82 [(0, .ref 55), (1, .int d), (2, .int s), (3, .int x3), (4, .int (rest_ N d)), (5, .int (nI k))] [] Y (0, 0) (gp_q (some (.int V)) Y)) (n := N 0) (fun c => ?_) (fun k hk ih c => ?_) (fun i hi => absurd hi (Nat.not_lt_zero _))
    · exact b_mo_hinders_82 hX ⟨fun _ => ⟨by rw [v0 a b (fun k hk => c k (bt_lt (rest_low h d) hk) hk)], rfl⟩, fun z => absurd (by rw [g 55 0 rfl, n2]; exact Int32.le_refl _) z⟩
    · have nx : (bt (rest_ N d) k = true → Sup N S X d k) → Ev E m_mo_hinders 82 [(0, .ref 55), (1, .int d), (2, .int s), (3, .int x3), (4, .int (rest_ N d)), (5, .int (nI k + 1))] [] Y (0, 0) (gp_q (some (.int V)) Y) := fun e => by
        rw [nI_s]
        exact ih (fun i hi => by
          rcases Nat.lt_or_ge i k with z | z
          · exact c i z
          · rw [show i = k by omega]; exact e)
      refine b_mo_hinders_82 hX ⟨fun z => absurd z (by rw [g 55 0 rfl, n2]; exact nI_nge hk (by omega)), fun _ => ?_⟩
      rw [gb_bt _ (by omega)]
      exact ⟨fun e => nx (fun z => bnf e z), fun e => wh_i (s_reach h hX g r12) hX (wh_i (s_mo_useAt' h hX g _ _) hX (wh_i (s_mo_makeAt' h hX g _) hX ⟨fun e2 => nx (fun _ => e2), fun e2 => ⟨by rw [v4 k a b e e2], rfl⟩⟩))⟩
  have fed : ∀ x3 : Int32, Prt N X d → Ev E m_mo_hinders 58 [(0, .ref 55), (1, .int d), (2, .int s), (3, .int x3)] [.int (rch N X (teS X) d 0)] Y (0, 0) (gp_q (some (.int V)) Y) := by
    intro x3 a
    refine b_mo_hinders_58 hX ?_
    rw [g 55 0 rfl, n2]
    exact ⟨fun b => sup _ a b, fun b => ⟨by rw [v3 a b], rfl⟩⟩
  have key := dn (P := fun k => (∀ p, p < k → bdr X d p → ¬ gI X 58 p = 0) → Ev E m_mo_hinders 2 [(0, .ref 55), (1, .int d), (2, .int s), (3, .int (nI k))] [] Y (0, 0) (gp_q (some (.int V)) Y)) (n := N 1) (fun a => by
    refine b_mo_hinders_2 hX ⟨fun _ => ?_, fun z => absurd (by rw [g 55 1 rfl, k2]; exact Int32.le_refl _) z⟩
    rw [g 55 11 rfl]
    rcases q8 with c | ⟨t, ht, c⟩
    · refine ⟨fun z => absurd c z, fun _ => ?_⟩
      have e0 : rch N X (teS X) d 0 = 0 := by
        refine (ST_eq (fun i hi => ?_)).symm
        rw [b_0]
        refine ⟨fun z => absurd z (by decide), fun z => ?_⟩
        exact absurd (clo_in (fun _ => False) z (fun i hi => by
          have := hi.1
          unfold teS at this
          rw [if_pos c, b_0] at this
          exact absurd this (by decide)) (fun _ _ f _ => f)) id
      have := fed (nI (N 1)) a
      rw [e0] at this
      exact this
    · have ne : ¬ gI X 55 11 = -1 := by
        rw [c]; intro z
        have := congrArg Int32.toInt z
        rw [nI_toInt (by omega)] at this
        exact absurd this (by rw [show (-1 : Int32).toInt = -1 from by decide]; omega)
      refine ⟨fun _ => ?_, fun z => absurd z ne⟩
      rw [c]
      refine wh_i (s_reach h hX g hd) hX ?_
      have e : rch N X ((1 : Int32) <<< (nI t &&& 31)) d 0 = rch N X (teS X) d 0 := by unfold teS; rw [if_neg ne, c]
      rw [e]
      exact fed _ a) (fun k hk ih a => by
    refine b_mo_hinders_2 hX ⟨fun z => absurd z (by rw [g 55 1 rfl, k2]; exact nI_nge hk (by omega)), fun _ => ?_⟩
    have nx : (bdr X d k → ¬ gI X 58 k = 0) → Ev E m_mo_hinders 2 [(0, .ref 55), (1, .int d), (2, .int s), (3, .int (nI k + 1))] [] Y (0, 0) (gp_q (some (.int V)) Y) := fun c => by
      rw [nI_s]
      exact ih (fun p hp => by
        rcases Nat.lt_or_ge p k with z | z
        · exact a p z
        · rw [show p = k by omega]; exact c)
    rcases bdr_dec X d k with b | b
    · refine wh_i (s_mo_isBorder h hX g (by omega) (V := 1) (fun _ => rfl) (fun z => absurd b z)) hX ⟨fun z => absurd z (by decide), fun _ => ⟨vin (by omega) (by omega), ?_⟩⟩
      rw [nI_c (by omega), g 58 _ rfl]
      exact ⟨fun c => nx (fun _ => c), fun c => ⟨by rw [v2 (fun z => z k hk b c)], rfl⟩⟩
    · exact wh_i (s_mo_isBorder h hX g (by omega) (V := 0) (fun z => absurd z b) (fun _ => rfl)) hX ⟨fun _ => nx (fun z => absurd z b), fun z => absurd rfl z⟩)
  exact b_mo_hinders_0 hX (key (fun p hp => absurd hp (Nat.not_lt_zero _)))
/-- the changed sectors -/
def dnF (X : gp_H) (s : Nat) : Int32 := if gI X 86 s = 0 then 0 else gI X 85 s
def dnS (N : Nat → Nat) (X : gp_H) : Int32 := orF (dnF X) (N 7)
theorem or_cg {f g : Nat → Int32} : ∀ n, (∀ k, k < n → f k = g k) → orF f n = orF g n
  | 0, _ => rfl
  | n + 1, h => by
    show orF f n ||| f n = orF g n ||| g n
    rw [or_cg n (fun k hk => h k (by omega)), h n (by omega)]
theorem dn_kn (h : Inv N S X) : knS N X (gI X 23 3) = dnS N X := or_cg (N 7) (fun s hs => by
  obtain ⟨-, -, -, -, -, q5, -⟩ := h.sec
  unfold knF dnF
  rw [q5 s hs]
  by_cases z : gI X 86 s = 0
  · rw [decide_eq_true z, if_pos z]; rfl
  · rw [decide_eq_false z, if_neg z]; rfl)
theorem or_low {f : Nat → Int32} {m : Nat} : ∀ n, (∀ k, k < n → low m (f k)) → low m (orF f n)
  | 0, _ => low_0 m
  | n + 1, h => low_or (or_low n (fun k hk => h k (by omega))) (h n (by omega))
theorem set_low (h : Inv N S X) {s : Nat} (hs : s < N 7) : low 12 (gI X 85 s) := by
  have hn := h.net.1.2.2
  obtain ⟨-, -, q, -⟩ := h.sec
  exact low_mono ((low_lt (n := N 0) (by omega)).mpr ⟨Int32.le_of_lt (q s hs).1, (q s hs).2⟩) hn
theorem dn_low (h : Inv N S X) : low 12 (dnS N X) := or_low (N 7) (fun s hs => by
  unfold dnF
  split
  · exact low_0 12
  · exact set_low h hs)
theorem kn_low (h : Inv N S X) (m : Int32) : low 12 (knS N X m) := or_low (N 7) (fun s hs => by
  unfold knF
  split
  · exact set_low h hs
  · exact low_0 12)
theorem s_se_changedKnots' (h : Inv N S X) (hX : Lay S Y) (g : Cf X Y) : Ev E m_se_changedKnots 0 [(0, .ref 23)] [] Y (0, 0) (gp_q (some (.int (dnS N X))) Y) := by
  refine b_se_changedKnots_0 hX ?_
  rw [g 23 3 rfl]
  exact wh_i (s_se_knotsOf' h hX g _) hX ⟨by rw [dn_kn h], rfl⟩
theorem s_mo_done (h : Inv N S X) (hX : Lay S Y) (g : Rf X Y) : Ev E m_mo_done 0 [(0, .ref 55)] [] Y (0, 0) (gp_q (some (.int (dnS N X))) Y) := by
  obtain ⟨⟨k1, k2, k3⟩, -⟩ := h.sec
  refine b_mo_done_0 hX ?_
  refine dn (P := fun k => Ev E m_mo_done 4 [(0, .ref 55), (1, .int (orF (dnF X) k)), (2, .int (nI k))] [] Y (0, 0) (gp_q (some (.int (orF (dnF X) (N 7)))) Y)) (n := N 7) ?_ ?_
  · exact b_mo_done_4 hX ⟨fun _ => ⟨rfl, rfl⟩, fun z => absurd (by rw [g 55 37 rfl, k2]; exact Int32.le_refl _) z⟩
  · intro k hk ih
    refine b_mo_done_4 hX ⟨fun z => absurd z (by rw [g 55 37 rfl, k2]; exact nI_nge hk (by omega)), fun _ => ⟨vin (by omega) (by omega), ?_⟩⟩
    rw [nI_c (by omega), nI_s, g 86 _ rfl, g 85 _ rfl]
    refine ⟨fun c => ?_, fun c => ?_⟩
    · rw [or_0 (if_pos c)] at ih; rw [Int32.or_zero]; exact ih
    · rw [or_1 (if_neg c)] at ih; exact ih
/-- BARRED -/
def Brd (N : Nat → Nat) (X : gp_H) (s : Int32) (i : Nat) : Prop := ¬ gI X 101 i = 0 ∧ gI X 97 i = s ∧ iw (gI X 55 44) (gI X 98 i) (gI X 99 i) = true
theorem s_la_bars (h : Inv N S X) {s V : Int32} (h1 : ∀ i, i < N 12 → Brd N X s i → V = 1) (h0 : (∀ i, i < N 12 → ¬ Brd N X s i) → V = 0) : Ev E m_la_bars 0 [(0, .ref 40), (1, .int s), (2, .int (gI X 0 16))] [] X (0, 0) (gp_q (some (.int V)) X) := by
  have hX := h.lay
  obtain ⟨⟨k1, k2, k3⟩, q1, -⟩ := h.law
  obtain ⟨w1, w2, w3⟩ := h.wek
  have key := dn (P := fun k => (∀ i, i < k → ¬ Brd N X s i) → Ev E m_la_bars 2 [(0, .ref 40), (1, .int s), (2, .int (gI X 0 16)), (3, .int (nI k))] [] X (0, 0) (gp_q (some (.int V)) X)) (n := N 12) (fun a => b_la_bars_2 hX ⟨fun _ => ⟨by rw [h0 a], rfl⟩, fun z => absurd (by rw [k1]; exact Int32.le_refl _) z⟩) (fun k hk ih a => by
    refine b_la_bars_2 hX ⟨fun z => absurd z (by rw [k1]; exact nI_nge hk (by omega)), fun _ => ⟨vin (by omega) (by omega), ?_⟩⟩
    obtain ⟨e1, e2, e3⟩ := q1 k hk
    have nx : ¬ Brd N X s k → Ev E m_la_bars 2 [(0, .ref 40), (1, .int s), (2, .int (gI X 0 16)), (3, .int (nI k + 1))] [] X (0, 0) (gp_q (some (.int V)) X) := fun c => by
      rw [nI_s]
      exact ih (fun i hi => by
        rcases Nat.lt_or_ge i k with z | z
        · exact a i z
        · rw [show i = k by omega]; exact c)
    rw [nI_c (by omega), e1, e2]
    rcases e3 with ⟨a1, a2, a3⟩ | ⟨a1, a2, a3⟩
    · rw [a1, a3, w1, ← w2]
      rw [w1, ← w2] at nx
      refine ⟨fun z => absurd rfl z, fun _ => ⟨fun c => nx (fun z => c z.2.1), fun c => ⟨fun c2 => nx (fun z => bnf c2 z.2.2), fun c2 => ⟨by rw [h1 k hk ⟨by rw [a2]; decide, c, c2⟩], rfl⟩⟩⟩⟩
    · rw [a1]
      exact ⟨fun _ => nx (fun z => z.1 a2), fun z => absurd z (by decide)⟩)
  exact b_la_bars_0 hX (key (fun p hp => absurd hp (Nat.not_lt_zero _)))
theorem s_mo_isBarred (h : Inv N S X) (hX : Lay S Y) (g : Rf X Y) {s V : Int32} (h1 : ∀ i, i < N 12 → Brd N X s i → V = 1) (h0 : (∀ i, i < N 12 → ¬ Brd N X s i) → V = 0) : Ev E m_mo_isBarred 0 [(0, .ref 55), (1, .int s)] [] Y (0, 0) (gp_q (some (.int V)) Y) := by
  obtain ⟨⟨k1, k2, k3⟩, q1, -⟩ := h.law
  have key := dn (P := fun k => ∀ v : Int32, is01 v → (v = 1 → ∃ i, i < N 12 ∧ Brd N X s i) → (v = 0 → ∀ i, i < k → ¬ Brd N X s i) → Ev E m_mo_isBarred 4 [(0, .ref 55), (1, .int s), (2, .int v), (3, .int (nI k))] [] Y (0, 0) (gp_q (some (.int V)) Y)) (n := N 12) (fun v hv a b => by
    refine b_mo_isBarred_4 hX ⟨fun _ => ⟨by rcases hv with e | e <;> rw [e] <;> decide, ?_, rfl⟩, fun z => absurd (by rw [g 55 57 rfl, k2]; exact Int32.le_refl _) z⟩
    rcases hv with e | e
    · rw [h0 (b e), e]
    · obtain ⟨i, hi, c⟩ := a e
      rw [h1 i hi c, e]) (fun k hk ih v hv a b => by
    have one : (∃ i, i < N 12 ∧ Brd N X s i) → Ev E m_mo_isBarred 57 [(0, .ref 55), (1, .int s), (2, .int v), (3, .int (nI k))] [] Y (0, 0) (gp_q (some (.int V)) Y) := fun c => b_mo_isBarred_57 hX (by rw [nI_s]; exact ih 1 (Or.inr rfl) (fun _ => c) (fun z => absurd z (by decide)))
    have zero : v = 0 → ¬ Brd N X s k → Ev E m_mo_isBarred 4 [(0, .ref 55), (1, .int s), (2, .int 0), (3, .int (nI k + 1))] [] Y (0, 0) (gp_q (some (.int V)) Y) := fun c d => by
      rw [nI_s]
      exact ih 0 (Or.inl rfl) (fun z => absurd z (by decide)) (fun _ i hi => by
        rcases Nat.lt_or_ge i k with z | z
        · exact b c i z
        · rw [show i = k by omega]; exact d)
    refine b_mo_isBarred_4 hX ⟨fun z => absurd z (by rw [g 55 57 rfl, k2]; exact nI_nge hk (by omega)), fun _ => ⟨fun c => one (a (hv.resolve_left c)), fun c => ⟨vin (by omega) (by omega), ?_⟩⟩⟩
    rw [nI_c (by omega), g 101 _ rfl, g 97 _ rfl, g 98 _ rfl, g 99 _ rfl, g 55 44 rfl]
    exact ⟨fun c1 => zero c (fun z => z.1 c1), fun c1 => ⟨fun c2 => zero c (fun z => c2 z.2.1), fun c2 => ⟨fun c3 => zero c (fun z => bnf c3 z.2.2), fun c3 => one ⟨k, hk, c1, c2, c3⟩⟩⟩⟩)
  exact b_mo_isBarred_0 hX (key 0 (Or.inl rfl) (fun z => absurd z (by decide)) (fun _ i hi => absurd hi (Nat.not_lt_zero _)))
/-- WHY NOT -/
def WhV (N : Nat → Nat) (S : gp_S) (X : gp_H) (s : Nat) (V : Int32) : Prop := (¬ gI X 86 s = 0 → V = 1) ∧ (∀ v, gI X 86 s = 0 → HdV N S X (dnS N X ||| gI X 85 s) (gI X 85 s) v → ¬ v = 0 → V = v) ∧ (∀ v i, gI X 86 s = 0 → HdV N S X (dnS N X ||| gI X 85 s) (gI X 85 s) v → v = 0 → i < N 12 → Brd N X (nI s) i → V = 5) ∧ (∀ v, gI X 86 s = 0 → HdV N S X (dnS N X ||| gI X 85 s) (gI X 85 s) v → v = 0 → (∀ i, i < N 12 → ¬ Brd N X (nI s) i) → V = 0)
theorem hd_u {d s v w : Int32} (a : HdV N S X d s v) (b : HdV N S X d s w) : v = w := by
  obtain ⟨u, -, -⟩ := hd_ex N S X d s
  by_cases p1 : Prt N X d
  · by_cases p2 : s &&& (rch N X (teS X) d 0 ^^^ (-1)) = 0
    · by_cases p3 : ∀ k, bt (rest_ N d) k = true → Sup N S X d k
      · rw [a.2.2.2 p1 p2 p3, b.2.2.2 p1 p2 p3]
      · obtain ⟨k, hk⟩ := Classical.not_forall.mp p3
        obtain ⟨hk1, hk2⟩ := Classical.not_imp.mp hk
        rw [a.2.2.1 k p1 p2 hk1 hk2, b.2.2.1 k p1 p2 hk1 hk2]
    · rw [a.2.1 p1 p2, b.2.1 p1 p2]
  · rw [a.1 p1, b.1 p1]
theorem wh_ex (N : Nat → Nat) (S : gp_S) (X : gp_H) (s : Nat) : ∃ V, WhV N S X s V := by
  by_cases a : gI X 86 s = 0
  · obtain ⟨v, hv, -⟩ := hd_ex N S X (dnS N X ||| gI X 85 s) (gI X 85 s)
    by_cases b : v = 0
    · by_cases c : ∃ i, i < N 12 ∧ Brd N X (nI s) i
      · obtain ⟨i, hi, c⟩ := c
        exact ⟨5, fun z => absurd a z, fun w _ hw z => absurd ((hd_u hw hv).trans b) z, fun _ _ _ _ _ _ _ => rfl, fun w _ _ _ z => absurd c (z i hi)⟩
      · exact ⟨0, fun z => absurd a z, fun w _ hw z => absurd ((hd_u hw hv).trans b) z, fun w i _ _ _ z1 z2 => absurd ⟨i, z1, z2⟩ c, fun _ _ _ _ _ => rfl⟩
    · exact ⟨v, fun z => absurd a z, fun w _ hw _ => hd_u hv hw, fun w i _ hw z => absurd ((hd_u hv hw).trans z) b, fun w _ hw z => absurd ((hd_u hv hw).trans z) b⟩
  · exact ⟨1, fun _ => rfl, fun w z => absurd z a, fun w i z => absurd z a, fun w z => absurd z a⟩
theorem s_mo_whyNot (h : Inv N S X) (hX : Lay S Y) (g : Rf X Y) {s : Nat} (hs : s < N 7) {V : Int32} (hv : WhV N S X s V) : Ev E m_mo_whyNot 0 [(0, .ref 55), (1, .int (nI s))] [] Y (0, 0) (gp_q (some (.int V)) Y) := by
  have s7 := h.sec.1.2.2
  refine b_mo_whyNot_0 hX ⟨vin (by omega) (by omega), ?_⟩
  rw [nI_c (by omega), g 86 _ rfl]
  refine ⟨fun a => wh_i (s_mo_done h hX g) hX ?_, fun a => ⟨by rw [hv.1 a], rfl⟩⟩
  rw [g 85 _ rfl]
  obtain ⟨v, hh, -⟩ := hd_ex N S X (dnS N X ||| gI X 85 s) (gI X 85 s)
  refine wh_i (s_mo_hinders h hX g (low_or (dn_low h) (set_low h hs)) hh) hX ⟨fun b => ?_, fun b => ⟨by rw [hv.2.1 v a hh b], rfl⟩⟩
  by_cases c : ∃ i, i < N 12 ∧ Brd N X (nI s) i
  · obtain ⟨i, hi, c⟩ := c
    exact wh_i (s_mo_isBarred h hX g (V := 1) (fun _ _ _ => rfl) (fun z => absurd c (z i hi))) hX ⟨fun z => absurd z (by decide), fun _ => ⟨by rw [hv.2.2.1 v i a hh b hi c], rfl⟩⟩
  · have c' : ∀ i, i < N 12 → ¬ Brd N X (nI s) i := fun i hi z => c ⟨i, hi, z⟩
    exact wh_i (s_mo_isBarred h hX g (V := 0) (fun i hi z => absurd z (c' i hi)) (fun _ => rfl)) hX ⟨fun _ => ⟨by rw [hv.2.2.2 v a hh b c'], rfl⟩, fun z => absurd rfl z⟩
theorem s_se_hindrance (h : Inv N S Y) (lk : ∀ k, k < 12 → gI Y 27 k = lkV N S Y k) {s : Nat} (hs : s < N 7) (a : gI Y 86 s = 0) {V : Int32} (hv : HdV N S Y (dnS N Y ||| gI Y 85 s) (gI Y 85 s) V) : Ev E m_se_hindrance 0 [(0, .ref 23), (1, .int (nI s))] [] Y (0, 0) (gp_q (some (.int V)) Y) := by
  have hX := h.lay
  obtain ⟨⟨k1, k2, k3⟩, q1, q2, q3, q4, q5, -⟩ := h.sec
  have dl := low_or (dn_low h) (set_low h hs)
  refine b_se_hindrance_0 hX ?_
  rw [q5 s hs, decide_eq_true a]
  refine ⟨fun _ => wh_i (s_se_changedKnots' h hX (cf_0 Y)) hX ⟨vin (by omega) (by omega), ?_⟩, fun z => absurd z (by decide)⟩
  rw [nI_c (by omega), q1 s]
  by_cases p1 : Prt N Y (dnS N Y ||| gI Y 85 s)
  · refine wh_i (s_ne_canBeParted h (V := 1) (fun _ => rfl) (fun z => absurd p1 z)) hX ⟨fun _ => wh_i (s_ne_fedWithin h dl) hX ?_, fun z => absurd z (by decide)⟩
    rw [q1 s]
    refine ⟨fun p2 => ?_, fun p2 => ⟨by rw [hv.2.1 p1 p2], rfl⟩⟩
    by_cases p3 : ∀ k, bt (rest_ N (dnS N Y ||| gI Y 85 s)) k = true → Sup N S Y (dnS N Y ||| gI Y 85 s) k
    · exact wh_i (s_se_restIsSupplied h lk (V := 1) (fun _ => rfl) (fun k z1 z2 => absurd (p3 k z1) z2)) hX ⟨fun z => absurd z (by decide), fun _ => ⟨by rw [hv.2.2.2 p1 p2 p3], rfl⟩⟩
    · obtain ⟨k, hk⟩ := Classical.not_forall.mp p3
      obtain ⟨hk1, hk2⟩ := Classical.not_imp.mp hk
      exact wh_i (s_se_restIsSupplied h lk (V := 0) (fun z => absurd z p3) (fun _ _ _ => rfl)) hX ⟨fun _ => ⟨by rw [hv.2.2.1 k p1 p2 hk1 hk2], rfl⟩, fun z => absurd rfl z⟩
  · exact wh_i (s_ne_canBeParted h (V := 0) (fun z => absurd z p1) (fun _ => rfl)) hX ⟨fun z => absurd rfl z, fun _ => ⟨by rw [hv.1 p1], rfl⟩⟩
/-- the class' heap behind a count of the lack -/
abbrev lkX (N : Nat → Nat) (S : gp_S) (X : gp_H) : gp_H := gp_wI X (fun a k => if a = 27 ∧ k < 12 then lkV N S X k else gI X a k)
theorem lkX_ne {a k : Nat} (h : a ≠ 27) : gI (lkX N S X) a k = gI X a k := if_neg (fun z => h z.1)
theorem lkX_inv (h : Inv N S X) : Inv N S (lkX N S X) := inv_scr h (ly_wI h.lay) (fun a k z _ _ _ => lkX_ne z)
theorem lkX_lk (k : Nat) (hk : k < 12) : gI (lkX N S X) 27 k = lkV N S (lkX N S X) k := by
  show (if 27 = 27 ∧ k < 12 then lkV N S X k else gI X 27 k) = _
  rw [if_pos ⟨rfl, hk⟩]; rfl
theorem s_ga_whatHinders (h : Inv N S X) {s : Nat} (hs : s < N 7) {V : Int32} (hv : WhV N S (lkX N S X) s V) : Ev E m_ga_whatHinders 0 [(0, .ref 0), (1, .int (nI s))] [] X (0, 0) (gp_q (some (.int V)) (lkX N S X)) := by
  have hX := h.lay
  have h' := lkX_inv h
  have lX := h'.lay
  have q5 := h'.sec.2.2.2.2.2.1 s hs
  refine b_ga_whatHinders_0 hX (wh_n (s_ga_countLack h) lX ?_)
  by_cases a : gI (lkX N S X) 86 s = 0
  · obtain ⟨v, hh, -⟩ := hd_ex N S (lkX N S X) (dnS N (lkX N S X) ||| gI (lkX N S X) 85 s) (gI (lkX N S X) 85 s)
    refine wh_i (s_se_hindrance h' (fun k hk => lkX_lk k hk) hs a hh) lX ⟨fun b => ?_, fun b => ⟨by rw [hv.2.1 v a hh b], rfl⟩⟩
    by_cases c : ∃ i, i < N 12 ∧ Brd N (lkX N S X) (nI s) i
    · obtain ⟨i, hi, c⟩ := c
      exact wh_i (s_la_bars h' (V := 1) (fun _ _ _ => rfl) (fun z => absurd c (z i hi))) lX ⟨fun z => absurd z (by decide), fun _ => ⟨by rw [hv.2.2.1 v i a hh b hi c], rfl⟩⟩
    · have c' : ∀ i, i < N 12 → ¬ Brd N (lkX N S X) (nI s) i := fun i hi z => c ⟨i, hi, z⟩
      exact wh_i (s_la_bars h' (V := 0) (fun i hi z => absurd z (c' i hi)) (fun _ => rfl)) lX ⟨fun _ => ⟨by rw [hv.2.2.2 v a hh b c'], rfl⟩, fun z => absurd rfl z⟩
  · rw [decide_eq_false a] at q5
    refine wh_i (b_se_hindrance_0 (Q := gp_q (some (.int 1)) (lkX N S X)) lX (by rw [q5]; exact ⟨fun z => absurd z (by decide), fun _ => ⟨rfl, rfl⟩⟩)) lX ⟨fun z => absurd z (by decide), fun _ => ⟨by rw [hv.1 a], rfl⟩⟩
end HIN
theorem p_why {E : gp_E} {N : Nat → Nat} {S : gp_S} {X : gp_H} (h : Inv N S X) (x1 : Int32) : Ev E m_ga_why 0 [(0, .ref 0), (1, .int x1)] [] X (0, 0) (gp_two E m_mo_why [(0, .ref 55), (1, .int x1)]) := by
  have hL := h.lay
  obtain ⟨⟨k1, k2, k3⟩, -⟩ := h.sec
  have h' := lkX_inv h
  refine b_ga_why_0 hL ?_
  rw [k1]
  refine ⟨fun c => ?_, fun c => ⟨_, S, rfl, hL, b_mo_why_0 hL (by rw [k2]; exact ⟨fun _ => ⟨rfl, N, h⟩, fun z => bnf c z⟩)⟩⟩
  obtain ⟨s, hs, rfl⟩ := iw_nI (by omega) c
  obtain ⟨V, hV⟩ := wh_ex N S (lkX N S X) s
  refine wh_i (s_ga_whatHinders h hs hV) h'.lay ⟨_, S, rfl, h'.lay, b_mo_why_0 h'.lay ?_⟩
  rw [show gI (lkX N S X) 55 37 = nI (N 7) from h'.sec.1.2.1]
  exact ⟨fun z => bne c z, fun _ => wh_i (s_mo_whyNot h' h'.lay (rf_0 _) hs hV) h'.lay ⟨rfl, N, h'⟩⟩
