section BSR
variable {E : gp_E} {N : Nat → Nat} {S : gp_S} {X Y : gp_H}
noncomputable def aW (N : Nat → Nat) (S : gp_S) (X : gp_H) (w : Nat) : Nat := am (fW N S X w) (N 7)
noncomputable def ch (N : Nat → Nat) (S : gp_S) (X : gp_H) (c : Nat) : Nat → Nat
  | 0 => c
  | i + 1 => ch N S X c i ||| 2 ^ aW N S X (ch N S X c i)
theorem aW_1 (h : Inv N S X) {w : Nat} (hw : w < 2 ^ N 7) (ha : ¬ w + 1 = 2 ^ N 7) (hl : LL N S X w < 1000000) : aW N S X w < N 7 ∧ fW N S X w (aW N S X w) = LL N S X w ∧ (∀ s, s < aW N S X w → ¬ fW N S X w s = LL N S X w) ∧ w ||| 2 ^ aW N S X w < 2 ^ N 7 ∧ LL N S X (w ||| 2 ^ aW N S X w) < 1000000 ∧ pc (w ||| 2 ^ aW N S X w) = pc w + 1 := by
  have k3 := h.sec.1.2.2
  have p8 := p128 k3
  have eL : LL N S X w = mnN (fW N S X w) (N 7) := by rw [LL_e, if_neg ha]
  rw [eL] at hl ⊢
  obtain ⟨a1, a2, a3⟩ := am_1 (fW N S X w) (N 7) hl
  have hf : fW N S X w (aW N S X w) < 1000000 := by show fW N S X w (am (fW N S X w) (N 7)) < _; rw [a2]; exact hl
  obtain ⟨-, b1, b2, b3, -, -⟩ := fW_b h hf
  obtain ⟨-, c2, -⟩ := w_tab w (by omega) (aW N S X w) (show am (fW N S X w) (N 7) < 7 by omega)
  refine ⟨a1, a2, a3, b2, b3, pc_tab w (by omega) _ (show am (fW N S X w) (N 7) < 7 by omega) ?_⟩
  cases q : w.testBit (aW N S X w) with
  | false => rfl
  | true => have := c2 q; omega
theorem ch_ok (h : Inv N S X) {c : Nat} (hc : c < 2 ^ N 7) (hl : LL N S X c < 1000000) : ∀ i, i + pc c ≤ N 7 → ch N S X c i < 2 ^ N 7 ∧ LL N S X (ch N S X c i) < 1000000 ∧ pc (ch N S X c i) = pc c + i ∧ ch N S X c i &&& c = c
  | 0, _ => ⟨hc, hl, rfl, Nat.and_self c⟩
  | i + 1, hi => by
    have k3 := h.sec.1.2.2
    obtain ⟨a1, a2, a3, a4⟩ := ch_ok h hc hl i (by omega)
    obtain ⟨-, -, -, b4, b5, b6⟩ := aW_1 h a1 (fun z => by have := (pc_all (N 7) (by omega) _ a1).2.2 z; omega) a2
    exact ⟨b4, b5, by show pc (ch N S X c i ||| _) = _; rw [b6, a3]; omega, w_sup a4⟩
theorem s_tellRow (h : Inv N S X) (lY : Lay S Y) {c : Nat} (e1 : gI Y 23 1 = nI (N 7)) (e3 : gI Y 23 3 = nI c) (hc : c < 2 ^ N 7) (hl : LL N S X c < 1000000) (t : ∀ w, w < 2 ^ N 7 → w &&& c = c → w + 1 < 2 ^ N 7 → LL N S X w < 1000000 → gI Y 30 w = nI (aW N S X w)) : Ev E m_se_tellRow 0 [(0, .ref 23)] [] Y (0, 0) (fun r Y' => r = none ∧ Lay S Y' ∧ (∀ a k, a ≠ 26 → ¬ (a = 23 ∧ k = 6) → gI Y' a k = gI Y a k) ∧ gI Y' 23 6 = nI (N 7 - pc c) ∧ ∀ j, j < N 7 - pc c → gI Y' 26 j = nI (aW N S X (ch N S X c j))) := by
  have k3 := h.sec.1.2.2
  have p8 := p128 k3
  have pl := (pc_all (N 7) (by omega) c hc).1
  have go : ∀ d i (Y1 : gp_H), d + i = N 7 - pc c → Lay S Y1 → (∀ a k, a ≠ 26 → ¬ (a = 23 ∧ k = 6) → gI Y1 a k = gI Y a k) → gI Y1 23 6 = nI i → (∀ j, j < i → gI Y1 26 j = nI (aW N S X (ch N S X c j))) → Ev E m_se_tellRow 12 [(0, .ref 23), (1, .int (nI (ch N S X c i))), (2, .int (nI i))] [] Y1 (0, 0) (fun r Y' => r = none ∧ Lay S Y' ∧ (∀ a k, a ≠ 26 → ¬ (a = 23 ∧ k = 6) → gI Y' a k = gI Y a k) ∧ gI Y' 23 6 = nI (N 7 - pc c) ∧ ∀ j, j < N 7 - pc c → gI Y' 26 j = nI (aW N S X (ch N S X c j))) := by
    intro d
    induction d with
    | zero =>
      intro i Y1 e l1 f1 g1 r1
      obtain rfl : i = N 7 - pc c := by omega
      obtain ⟨a1, a2, a3, a4⟩ := ch_ok h hc hl (N 7 - pc c) (by omega)
      have := (pc_all (N 7) (by omega) _ a1).2.1 (by omega)
      have fin := And.intro (rfl : none = (none : Option Value)) (And.intro l1 (And.intro f1 (And.intro g1 r1)))
      refine b_se_tellRow_12 l1 ⟨fun _ => fin, fun _ => ?_⟩
      rw [f1 23 1 (by decide) (by decide), e1, all_nI k3, nI_eq (by omega) (by omega)]
      exact ⟨fun _ => fin, fun z => absurd (by omega) z⟩
    | succ d ih =>
      intro i Y1 e l1 f1 g1 r1
      obtain ⟨a1, a2, a3, a4⟩ := ch_ok h hc hl i (by omega)
      have na : ¬ ch N S X c i + 1 = 2 ^ N 7 := fun z => by have := (pc_all (N 7) (by omega) _ a1).2.2 z; omega
      obtain ⟨b1, -, -, b4, b5, b6⟩ := aW_1 h a1 na a2
      refine b_se_tellRow_12 l1 ⟨fun z => absurd z (nI_nge (a := i) (b := 7) (by omega) (by decide)), fun _ => ?_⟩
      rw [f1 23 1 (by decide) (by decide), e1, all_nI k3, nI_eq (by omega) (by omega), nI_c (k := ch N S X c i) (by omega), f1 30 _ (by decide) (by omega), t _ a1 a4 (by omega) a2, w_or k3 a1 b1, g1, nI_s, nI_c (k := i) (by omega)]
      refine ⟨fun z => absurd z (by omega), fun _ => ⟨vin (by omega) (by omega), vin (by omega) (by omega), ih (i + 1) _ (by omega) (ly_sI (ly_sI l1)) (fun a k z1 z2 => ?_) rfl (fun j hj => ?_)⟩⟩
      · exact (if_neg (fun y => z1 y.1)).trans ((if_neg z2).trans (f1 a k z1 z2))
      · show (if 26 = 26 ∧ j = i then nI (aW N S X (ch N S X c i)) else (if 26 = 23 ∧ j = 6 then nI (i + 1) else gI Y1 26 j)) = _
        by_cases q : j = i
        · rw [if_pos ⟨rfl, q⟩, q]
        · rw [if_neg (fun y => q y.2), if_neg (by omega)]; exact r1 j (by omega)
  refine b_se_tellRow_0 lY ?_
  rw [e3]
  exact go (N 7 - pc c) 0 _ rfl (ly_sI lY) (fun a k z1 z2 => if_neg z2) rfl (fun j hj => absurd hj (Nat.not_lt_zero _))
/-- a price as the reference writes it -/
def cd (v : Nat) : Int32 := if v < 1000000 then nI v else -1
theorem cd_m {v : Nat} : cd v = -1 ↔ ¬ v < 1000000 := by
  unfold cd
  by_cases z : v < 1000000
  · rw [if_pos z]
    refine ⟨fun y => ?_, fun y => absurd z y⟩
    have := congrArg Int32.toInt y
    rw [nI_toInt (by omega)] at this
    have e : (-1 : Int32).toInt = -1 := by decide
    rw [e] at this
    omega
  · rw [if_neg z]; exact ⟨fun _ => z, fun _ => rfl⟩
theorem cd_v {v : Nat} (h : v < 1000000) : cd v = nI v := if_pos h
theorem s_mo_knotsOf (h : Inv N S X) (hX : Lay S Y) (g : Rf X Y) (m : Int32) : Ev E m_mo_knotsOf 0 [(0, .ref 55), (1, .int m)] [] Y (0, 0) (gp_q (some (.int (knS N X m))) Y) := by
  obtain ⟨⟨k1, k2, k3⟩, q1, -⟩ := h.sec
  refine b_mo_knotsOf_0 hX ?_
  refine dn (P := fun k => Ev E m_mo_knotsOf 4 [(0, .ref 55), (1, .int m), (2, .int (orF (knF X m) k)), (3, .int (nI k))] [] Y (0, 0) (gp_q (some (.int (orF (knF X m) (N 7)))) Y)) (n := N 7) ?_ ?_
  · exact b_mo_knotsOf_4 hX ⟨fun _ => ⟨rfl, rfl⟩, fun z => absurd (by rw [g 55 37 rfl, k2]; exact Int32.le_refl _) z⟩
  · intro k hk ih
    refine b_mo_knotsOf_4 hX ⟨fun z => absurd z (by rw [g 55 37 rfl, k2]; exact nI_nge hk (by omega)), fun _ => ?_⟩
    rw [nI_c (by omega), nI_s, g 85 _ rfl]
    refine ⟨fun c => ?_, fun c => ⟨vin (by omega) (by omega), ?_⟩⟩
    · rw [or_1 (if_neg (fun q => bnf c q))] at ih; exact ih
    · rw [or_1 (if_pos c)] at ih; exact ih
theorem s_mo_borders (h : Inv N S X) (hX : Lay S Y) (g : Rf X Y) (d : Int32) : Ev E m_mo_borders 0 [(0, .ref 55), (1, .int d)] [] Y (0, 0) (gp_q (some (.int (nI (brN N X d)))) Y) := by
  obtain ⟨-, ⟨k1, k2, k3⟩, -⟩ := h.net
  refine b_mo_borders_0 hX ?_
  refine dn (P := fun k => Ev E m_mo_borders 4 [(0, .ref 55), (1, .int d), (2, .int (nI (cn (bdB X d) k))), (3, .int (nI k))] [] Y (0, 0) (gp_q (some (.int (nI (brN N X d)))) Y)) (n := N 1) ?_ ?_
  · exact b_mo_borders_4 hX ⟨fun _ => ⟨rfl, rfl⟩, fun z => absurd (by rw [g 55 1 rfl, k2]; exact Int32.le_refl _) z⟩
  · intro k hk ih
    rw [← cn_s] at ih
    refine b_mo_borders_4 hX ⟨fun z => absurd z (by rw [g 55 1 rfl, k2]; exact nI_nge hk (by omega)), fun _ => ?_⟩
    rw [nI_s k]
    cases q : bdB X d k with
    | true =>
      rw [q] at ih
      exact wh_i (s_mo_isBorder h hX g (p := k) (by omega) (V := 1) (fun _ => rfl) (fun z => absurd ((bdB_i d k).mp q) z)) hX ⟨fun z => absurd z (by decide), fun _ => ih⟩
    | false =>
      rw [q] at ih
      exact wh_i (s_mo_isBorder h hX g (p := k) (by omega) (V := 0) (fun z => bnf q ((bdB_i d k).mpr z)) (fun _ => rfl)) hX ⟨fun _ => ih, fun z => absurd rfl z⟩
def TbR (N : Nat → Nat) (S : gp_S) (X Z : gp_H) (c w0 : Nat) : Prop := ∀ w, w0 ≤ w → w < 2 ^ N 7 → w &&& c = c → gI Z 107 w = cd (LL N S X w)
def Nx (N : Nat → Nat) (i : Nat) : Nat → Nat := fun j => if j = 11 then i else N j
theorem s_onWith {X' Z : gp_H} {i0 : Nat} (h : Inv N S X) (h' : Inv (Nx N i0) S X') (g : Rw X X') (lZ : Lay S Z) (r : Rf X' Z) {c w k : Nat} (hw : w < 2 ^ N 7) (hs : w &&& c = c) (hk : k < N 7) (t : TbR N S X Z c (w + 1)) : Ev E m_mo_onWith 0 [(0, .ref 55), (1, .int (nI w)), (2, .int (nI k))] [] Z (0, 0) (gp_q (some (.int (cd (fW N S X w k)))) Z) := by
  have k3 := h.sec.1.2.2
  have p8 := p128 k3
  obtain ⟨b1, b2, b3⟩ := w_tab w (by omega) k (by omega)
  refine b_mo_onWith_0 lZ ?_
  rw [b1, w_or k3 hw hk]
  refine ⟨fun z => ⟨?_, rfl⟩, fun z => ⟨vin (Nat.lt_of_lt_of_le (w_lt k3 hw hk) p8) (by omega), ?_⟩⟩
  · have : fW N S X w k = 1000000 := if_neg (by have := b2 z; omega)
    rw [this]; rfl
  · have hlt := b3 z
    have hw' := w_lt k3 hw hk
    have fe : fW N S X w k = onV N S X (LL N S X (w ||| 2 ^ k)) (kw N X (w ||| 2 ^ k)) (gI X 85 k) := if_pos ⟨hlt, hw'⟩
    have e7 := t (w ||| 2 ^ k) (by omega) hw' (w_sup hs)
    rw [nI_c (k := w ||| 2 ^ k) (by omega), e7, cd_m]
    refine ⟨fun q => wh_i (s_mo_knotsOf h' lZ r _) lZ ⟨vin (by omega) (by omega), ?_⟩, fun q => ⟨?_, rfl⟩⟩
    · have ek : knS (Nx N i0) X' (nI (w ||| 2 ^ k)) = kw N X (w ||| 2 ^ k) := kn_rf (N := N) g
      have q' : LL N S X (w ||| 2 ^ k) < 1000000 := Classical.byContradiction q
      have lb := LL_b h (127 - (w ||| 2 ^ k)) (w ||| 2 ^ k) (by omega) q'
      have e85 : gI Z 85 k = gI X 85 k := (r 85 k rfl).trans (g 85 k rfl (by decide) (by omega))
      rw [ek, nI_c (k := k) (by omega), e85]
      obtain ⟨V, hV, hi⟩ := hd_ex (Nx N i0) S X' (kw N X (w ||| 2 ^ k)) (gI X 85 k)
      have hi' : V = 0 ↔ okW N S X (kw N X (w ||| 2 ^ k)) (gI X 85 k) := by
        rw [hi]
        unfold okW fdW SuA
        have y1 : Prt (Nx N i0) X' (kw N X (w ||| 2 ^ k)) ↔ Prt N X (kw N X (w ||| 2 ^ k)) := pr_rf (N := N) g
        have y2 : rch (Nx N i0) X' (teS X') (kw N X (w ||| 2 ^ k)) 0 = rch N X (teS X) (kw N X (w ||| 2 ^ k)) 0 := by
          rw [te_rf g]; exact rch_rf (N := N) g
        have y3 : ∀ j, Sup (Nx N i0) S X' (kw N X (w ||| 2 ^ k)) j ↔ Sup N S X (kw N X (w ||| 2 ^ k)) j := fun j => su_rf (N := N) g
        have y4 : rest_ (Nx N i0) (kw N X (w ||| 2 ^ k)) = rest_ N (kw N X (w ||| 2 ^ k)) := rfl
        rw [y1, y2, y4]
        exact ⟨fun x => ⟨x.1, x.2.1, fun j hj => (y3 j).mp (x.2.2 j hj)⟩, fun x => ⟨x.1, x.2.1, fun j hj => (y3 j).mpr (x.2.2 j hj)⟩⟩
      refine wh_i (s_mo_hinders h' lZ r (kn_low h _) hV) lZ ⟨fun v0 => wh_i (s_mo_borders h' lZ r _) lZ ⟨?_, rfl⟩, fun v0 => ⟨?_, rfl⟩⟩
      · have eb : brN (Nx N i0) X' (kw N X (w ||| 2 ^ k)) = brN N X (kw N X (w ||| 2 ^ k)) := br_rf (N := N) g
        have bb := br_le h (kw N X (w ||| 2 ^ k))
        have fv : fW N S X w k = LL N S X (w ||| 2 ^ k) + brN N X (kw N X (w ||| 2 ^ k)) := by
          rw [fe]
          unfold onV
          rw [if_pos ⟨q', hi'.mp v0⟩]
        rw [e7, eb, cd_v q', nI_add, fv, cd_v (by omega), Nat.add_comm]
      · have fv : fW N S X w k = 1000000 := by
          rw [fe]
          unfold onV
          rw [if_neg (fun x => v0 (hi'.mpr x.2))]
        rw [fv]; rfl
    · have fv : fW N S X w k = 1000000 := by
        rw [fe]
        unfold onV
        rw [if_neg (fun x => q x.1)]
      rw [fv]; rfl
end BSR
