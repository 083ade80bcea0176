section BSQ
variable {E : gp_E} {N : Nat → Nat} {S : gp_S} {X Y : gp_H}
def Fb (X Y : gp_H) : Prop := ∀ a k, a ≠ 28 → a ≠ 29 → a ≠ 30 → a ≠ 26 → ¬ (a = 23 ∧ k = 6) → gI Y a k = gI X a k
theorem s_findBest (h : Inv N S X) (lk : ∀ k, k < 12 → gI X 27 k = lkV N S X k) {c : Nat} (ec : gI X 23 3 = nI c) (hc : c < 2 ^ N 7) (na : ¬ c + 1 = 2 ^ N 7) : Ev E m_se_findBestRow 0 [(0, .ref 23)] [] X (0, 0) (fun r Y' => Lay S Y' ∧ Fb X Y' ∧ ((LL N S X c < 1000000 ∧ r = some (.int (nI (LL N S X c))) ∧ gI Y' 23 6 = nI (N 7 - pc c) ∧ ∀ j, j < N 7 - pc c → gI Y' 26 j = nI (aW N S X (ch N S X c j))) ∨ (¬ LL N S X c < 1000000 ∧ r = some (.int (-3)) ∧ Sm X Y'))) := by
  have hL := h.lay
  obtain ⟨⟨k1, k2, k3⟩, -⟩ := h.sec
  have p8 := p128 k3
  have lm : LL N S X c ≤ 1000000 := by
    rw [LL_e, if_neg na]; exact mn_le _ _
  refine b_se_findBestRow_0 hL ?_
  rw [k1, all_nI k3, ec, nI_eq (by omega) (by omega)]
  refine ⟨fun _ => ?_, fun z => absurd (by omega) na⟩
  have go : ∀ d w (Y : gp_H), d + c = w → w < 2 ^ N 7 → Lay S Y → Sm X Y → TbC N S X Y c w → Ev E m_se_findBestRow 19 [(0, .ref 23), (1, .int (nI w))] [] Y (0, 0) (fun r Y' => Lay S Y' ∧ Fb X Y' ∧ ((LL N S X c < 1000000 ∧ r = some (.int (nI (LL N S X c))) ∧ gI Y' 23 6 = nI (N 7 - pc c) ∧ ∀ j, j < N 7 - pc c → gI Y' 26 j = nI (aW N S X (ch N S X c j))) ∨ (¬ LL N S X c < 1000000 ∧ r = some (.int (-3)) ∧ Sm X Y'))) := by
    intro d
    induction d with
    | zero =>
      intro w Y e hw lY g t
      obtain rfl : w = c := by omega
      have e3 : gI Y 23 3 = nI w := (g 23 3 (by decide) (by decide) (by decide)).trans ec
      refine b_se_findBestRow_19 lY ?_
      rw [e3]
      refine ⟨fun _ => ⟨_, s_priceAfter h lY g hw (Nat.and_self w) t, fun r Y1 ⟨x1, x2, x3, x4⟩ => ⟨_, x1, x2, ?_⟩⟩, fun z => absurd (Int32.le_refl _) z⟩
      have g1 : Sm X Y1 := fun a k z1 z2 z3 => (x3 a k (fun y => z3 y.1)).trans (g a k z1 z2 z3)
      rw [show (1000000 : Int32) = nI 1000000 from rfl, nI_ltI (by omega) (by omega)]
      refine ⟨fun z => ⟨_, s_tellRow h x2 ((g1 23 1 (by decide) (by decide) (by decide)).trans k1) ((g1 23 3 (by decide) (by decide) (by decide)).trans ec) hw z (fun v v1 v2 v3 v4 => ?_), fun r Y2 ⟨y1, y2, y3, y4, y5⟩ => ⟨y1, y2, y2, fun a k z1 z2 z3 z4 z5 => (y3 a k z4 z5).trans (g1 a k z1 z2 z3), Or.inl ⟨z, rfl, y4, y5⟩⟩⟩, fun z => ⟨x2, fun a k z1 z2 z3 _ _ => g1 a k z1 z2 z3, Or.inr ⟨z, rfl, g1⟩⟩⟩
      by_cases q : v = w
      · rw [q] at v3 v4 ⊢; exact x4 v3 v4
      · have : w ≤ v := by
          have := Nat.and_le_left (n := v) (m := w)
          omega
        exact (x3 30 v (by omega)).trans ((t v (by omega) v1 v2).2.2 v3 v4)
    | succ d ih =>
      intro w Y e hw lY g t
      have e3 : gI Y 23 3 = nI c := (g 23 3 (by decide) (by decide) (by decide)).trans ec
      refine b_se_findBestRow_19 lY ?_
      rw [e3, nI_leI (by omega) (by omega), and_nI (by omega) (by omega), nI_eq (by have := Nat.and_le_left (n := w) (m := c); omega) (by omega), nI_m (by omega)]
      refine ⟨fun z => absurd z (by omega), fun _ => ⟨fun z => ih (w - 1) Y (by omega) (by omega) lY g (fun v v1 v2 v3 => t v (Nat.lt_of_le_of_ne (by omega) (fun q => z (by rw [q]; exact v3))) v2 v3), fun z => ⟨_, s_weigh h lk lY g hw z t, fun r Y1 ⟨x1, x2, x3, x4, x5, x6⟩ => ⟨x1, x2, ih (w - 1) Y1 (by omega) (by omega) x2 (fun a k z1 z2 z3 => (x3 a k (by omega)).trans (g a k z1 z2 z3)) (fun v v1 v2 v3 => ?_)⟩⟩⟩⟩
      by_cases q : v = w
      · rw [q]; exact ⟨x4, x5, x6⟩
      · rw [x3 28 v (by omega), x3 29 v (by omega), x3 30 v (by omega)]
        exact t v (by omega) v2 v3
  exact go (2 ^ N 7 - 1 - c) (2 ^ N 7 - 1) X (by omega) (by omega) hL (fun _ _ _ _ _ => rfl) (fun v v1 v2 _ => absurd v2 (by omega))
/-- the reference's table -/
theorem s_least (h : Inv N S X) {c : Nat} (hc : c < 2 ^ N 7) (na : ¬ c + 1 = 2 ^ N 7) {Q : Option Value → gp_H → Prop} (Qg : ∀ Z, Lay S Z → Rf X Z → (∀ a k, a ≠ 107 → gI Z a k = gI Y a k) → TbR N S X Z c 0 → Ev E m_mo_best 56 [(0, .ref 55), (1, .int (nI c)), (2, .int (nI (2 ^ N 7 - 1))), (3, .int (-1))] [] Z (0, 0) Q) : ∀ d (Z : gp_H), d ≤ 2 ^ N 7 → Lay S Z → Rf X Z → (∀ a k, a ≠ 107 → gI Z a k = gI Y a k) → TbR N S X Z c d → Ev E m_mo_best 56 [(0, .ref 55), (1, .int (nI c)), (2, .int (nI (2 ^ N 7 - 1))), (3, .int (nI d + (-1)))] [] Z (0, 0) Q := by
  obtain ⟨⟨k1, k2, k3⟩, -⟩ := h.sec
  have p8 := p128 k3
  have n0 : 0 < N 7 := Nat.pos_of_ne_zero (fun z => by rw [z] at hc na; omega)
  intro d
  induction d with
  | zero => intro Z _ lZ r f t; exact Qg Z lZ r f t
  | succ w ih =>
    intro Z hd lZ r f t
    rw [nI_m (by omega), show w + 1 - 1 = w by omega]
    have hw : w < 2 ^ N 7 := by omega
    have vw : vp_in (nI w) 128 := vin (by omega) (by omega)
    -- the sectors of one set
    have lp : w &&& c = c → ∀ e k (Z1 : gp_H), e + k = N 7 → Lay S Z1 → Rf X Z1 → (∀ a k, a ≠ 107 → gI Z1 a k = gI Y a k) → TbR N S X Z1 c (w + 1) → gI Z1 107 w = (if w + 1 = 2 ^ N 7 then 0 else cd (mnN (fW N S X w) k)) → Ev E m_mo_best 79 [(0, .ref 55), (1, .int (nI c)), (2, .int (nI (2 ^ N 7 - 1))), (3, .int (nI w)), (4, .int (nI k))] [] Z1 (0, 0) Q := by
      intro hs e
      induction e with
      | zero =>
        intro k Z1 e lZ1 r1 f1 t1 v1
        obtain rfl : k = N 7 := by omega
        refine b_mo_best_79 lZ1 ⟨fun _ => ih Z1 (by omega) lZ1 r1 f1 (fun v y1 y2 y3 => ?_), fun z => absurd (by rw [r1 55 37 rfl, k2]; exact Int32.le_refl _) z⟩
        by_cases q : v = w
        · rw [q, v1, LL_e]
          by_cases q2 : w + 1 = 2 ^ N 7
          · rw [if_pos q2, if_pos q2]; rfl
          · rw [if_neg q2, if_neg q2]
        · exact t1 v (by omega) y2 y3
      | succ e ihe =>
        intro k Z1 e lZ1 r1 f1 t1 v1
        have hk : k < N 7 := by omega
        have ml := mn_le (fW N S X w) k
        refine b_mo_best_79 lZ1 ⟨fun z => absurd z (by rw [r1 55 37 rfl, k2]; exact nI_nge hk (by omega)), fun _ => ?_⟩
        rw [and_nI (by omega) (by omega), nI_eq (by have := Nat.and_le_left (n := w) (m := c); omega) (by omega)]
        refine ⟨fun z => absurd hs z, fun _ => wh_i (s_onWith (i0 := N 11) h (by
          have : Nx N (N 11) = N := funext fun j => by unfold Nx; split <;> simp_all
          rw [this]; exact h) (fun _ _ _ _ _ => rfl) lZ1 r1 hw hs hk t1) lZ1 ?_⟩
        have same : (¬ fW N S X w k < mnN (fW N S X w) k ∨ w + 1 = 2 ^ N 7) → Ev E m_mo_best 141 [(0, .ref 55), (1, .int (nI c)), (2, .int (nI (2 ^ N 7 - 1))), (3, .int (nI w)), (4, .int (nI k)), (5, .int (cd (fW N S X w k)))] [.int (nI w), .ref 107] Z1 (0, 0) Q := fun z => by
          refine b_mo_best_141 lZ1 ⟨vw, vw, ?_⟩
          rw [nI_c (k := w) (by omega), nI_s]
          have e7 : ∀ a i, gI (gp_sI Z1 107 w (gI Z1 107 w)) a i = gI Z1 a i := fun a i => by
            show (if a = 107 ∧ i = w then gI Z1 107 w else gI Z1 a i) = _
            by_cases q : a = 107 ∧ i = w
            · rw [if_pos q, q.1, q.2]
            · rw [if_neg q]
          refine ihe (k + 1) _ (by omega) (ly_sI lZ1) (fun a i ha => (e7 a i).trans (r1 a i ha)) (fun a i ha => (e7 a i).trans (f1 a i ha)) (fun v y1 y2 y3 => (e7 107 v).trans (t1 v y1 y2 y3)) ?_
          rw [e7, v1]
          by_cases q : w + 1 = 2 ^ N 7
          · rw [if_pos q, if_pos q]
          · rw [if_neg q, if_neg q]
            have : mnN (fW N S X w) (k + 1) = mnN (fW N S X w) k := if_neg (z.resolve_right q)
            rw [this]
        have newv : fW N S X w k < mnN (fW N S X w) k → ¬ w + 1 = 2 ^ N 7 → Ev E m_mo_best 136 [(0, .ref 55), (1, .int (nI c)), (2, .int (nI (2 ^ N 7 - 1))), (3, .int (nI w)), (4, .int (nI k)), (5, .int (cd (fW N S X w k)))] [.int (nI w), .ref 107] Z1 (0, 0) Q := fun z z2 => by
          refine b_mo_best_136 lZ1 ⟨vw, ?_⟩
          rw [nI_c (k := w) (by omega), nI_s]
          have : mnN (fW N S X w) (k + 1) = fW N S X w k := if_pos z
          refine ihe (k + 1) _ (by omega) (ly_sI lZ1) (rg_sI r1) (fun a i ha => (if_neg (fun y => ha y.1)).trans (f1 a i ha)) (fun v y1 y2 y3 => (if_neg (by omega)).trans (t1 v y1 y2 y3)) ?_
          rw [if_neg z2, this]
          exact if_pos ⟨rfl, rfl⟩
        rw [cd_m, nI_c (k := w) (by omega), v1]
        refine ⟨fun z => same (Or.inl (by omega)), fun z => ⟨vw, ?_⟩⟩
        have z' : fW N S X w k < 1000000 := Classical.byContradiction z
        obtain ⟨-, f2, f3, -⟩ := fW_b h z'
        have q : ¬ w + 1 = 2 ^ N 7 := by omega
        rw [if_neg q, cd_m]
        refine ⟨fun y => newv (by omega) q, fun y => ?_⟩
        have y' : mnN (fW N S X w) k < 1000000 := Classical.byContradiction y
        rw [cd_v y', cd_v z', nI_leI (by omega) (by omega)]
        rw [cd_v z'] at same newv
        exact ⟨fun y2 => same (Or.inl (by omega)), fun y2 => newv (by omega) q⟩
    have start : ∀ v : Int32, v = (if w + 1 = 2 ^ N 7 then 0 else -1) → Ev E m_mo_best 79 [(0, .ref 55), (1, .int (nI c)), (2, .int (nI (2 ^ N 7 - 1))), (3, .int (nI w)), (4, .int 0)] [] (gp_sI Z 107 w v) (0, 0) Q := fun v ev => by
      have l1 : Lay S (gp_sI Z 107 w v) := ly_sI lZ
      have r1 : Rf X (gp_sI Z 107 w v) := rg_sI r
      have f1 : ∀ a k, a ≠ 107 → gI (gp_sI Z 107 w v) a k = gI Y a k := fun a i ha => (if_neg (fun y => ha y.1)).trans (f a i ha)
      have t1 : TbR N S X (gp_sI Z 107 w v) c (w + 1) := fun u y1 y2 y3 => (if_neg (by omega)).trans (t u y1 y2 y3)
      by_cases hs : w &&& c = c
      · exact lp hs (N 7) 0 _ rfl l1 r1 f1 t1 ((if_pos ⟨rfl, rfl⟩).trans ev)
      · refine b_mo_best_79 l1 ⟨fun z => absurd z (by rw [r1 55 37 rfl, k2]; exact nI_nge n0 (by omega)), fun _ => ?_⟩
        rw [and_nI (by omega) (by omega), nI_eq (by have := Nat.and_le_left (n := w) (m := c); omega) (by omega)]
        refine ⟨fun _ => ih _ (by omega) l1 r1 f1 (fun u y1 y2 y3 => t1 u (Nat.lt_of_le_of_ne y1 (fun q => hs (by rw [q]; exact y3))) y2 y3), fun z => absurd z hs⟩
    refine b_mo_best_56 lZ ⟨fun z => absurd z (by rw [show (0 : Int32) = nI 0 from rfl, nI_ltI (by omega) (by omega)]; omega), fun _ => ?_⟩
    rw [nI_eq (by omega) (by omega), nI_c (k := w) (by omega)]
    exact ⟨fun z => ⟨vw, start _ (by rw [if_neg (by omega)])⟩, fun z => ⟨vw, start _ (by rw [if_pos (by omega)])⟩⟩
end BSQ
