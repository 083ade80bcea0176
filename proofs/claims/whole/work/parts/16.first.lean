theorem Inv.lay {N : Nat → Nat} {S : gp_S} {X : gp_H} (h : Inv N S X) : Lay S X := h.1
theorem Inv.net {N : Nat → Nat} {S : gp_S} {X : gp_H} (h : Inv N S X) : I_net N X := h.2.1
theorem Inv.wrk {N : Nat → Nat} {S : gp_S} {X : gp_H} (h : Inv N S X) : I_wrk N X := h.2.2.1
theorem Inv.stp {N : Nat → Nat} {S : gp_S} {X : gp_H} (h : Inv N S X) : I_stp X := h.2.2.2.1
theorem Inv.mod {N : Nat → Nat} {S : gp_S} {X : gp_H} (h : Inv N S X) : I_mod S X := h.2.2.2.2.1
theorem Inv.hom {N : Nat → Nat} {S : gp_S} {X : gp_H} (h : Inv N S X) : I_hom N S X := h.2.2.2.2.2.1
theorem Inv.flt {N : Nat → Nat} {S : gp_S} {X : gp_H} (h : Inv N S X) : I_flt S X := h.2.2.2.2.2.2.1
theorem Inv.sur {N : Nat → Nat} {S : gp_S} {X : gp_H} (h : Inv N S X) : I_sur N S X := h.2.2.2.2.2.2.2.1
theorem Inv.stk {N : Nat → Nat} {S : gp_S} {X : gp_H} (h : Inv N S X) : I_stk X := h.2.2.2.2.2.2.2.2.1
theorem Inv.ord {N : Nat → Nat} {S : gp_S} {X : gp_H} (h : Inv N S X) : I_ord N X := h.2.2.2.2.2.2.2.2.2.1
theorem Inv.sec {N : Nat → Nat} {S : gp_S} {X : gp_H} (h : Inv N S X) : I_sec N X := h.2.2.2.2.2.2.2.2.2.2.1
theorem Inv.pln {N : Nat → Nat} {S : gp_S} {X : gp_H} (h : Inv N S X) : I_pln N X := h.2.2.2.2.2.2.2.2.2.2.2.1
theorem Inv.row {N : Nat → Nat} {S : gp_S} {X : gp_H} (h : Inv N S X) : I_row N X := h.2.2.2.2.2.2.2.2.2.2.2.2.1
theorem Inv.wek {N : Nat → Nat} {S : gp_S} {X : gp_H} (h : Inv N S X) : I_wek N X := h.2.2.2.2.2.2.2.2.2.2.2.2.2.1
theorem Inv.fit {N : Nat → Nat} {S : gp_S} {X : gp_H} (h : Inv N S X) : I_fit N X := h.2.2.2.2.2.2.2.2.2.2.2.2.2.2.1
theorem Inv.sml {N : Nat → Nat} {S : gp_S} {X : gp_H} (h : Inv N S X) : I_sml N X := h.2.2.2.2.2.2.2.2.2.2.2.2.2.2.2.1
theorem Inv.lim {N : Nat → Nat} {S : gp_S} {X : gp_H} (h : Inv N S X) : I_lim X := h.2.2.2.2.2.2.2.2.2.2.2.2.2.2.2.2.1
theorem Inv.law {N : Nat → Nat} {S : gp_S} {X : gp_H} (h : Inv N S X) : I_law N X := h.2.2.2.2.2.2.2.2.2.2.2.2.2.2.2.2.2.1
theorem Inv.tap {N : Nat → Nat} {S : gp_S} {X : gp_H} (h : Inv N S X) : I_tap N X := h.2.2.2.2.2.2.2.2.2.2.2.2.2.2.2.2.2.2.1
theorem Inv.trc {N : Nat → Nat} {S : gp_S} {X : gp_H} (h : Inv N S X) : I_trc X := h.2.2.2.2.2.2.2.2.2.2.2.2.2.2.2.2.2.2.2.1
theorem Inv.she {N : Nat → Nat} {S : gp_S} {X : gp_H} (h : Inv N S X) : I_she X := h.2.2.2.2.2.2.2.2.2.2.2.2.2.2.2.2.2.2.2.2.1
theorem Inv.txt {N : Nat → Nat} {S : gp_S} {X : gp_H} (h : Inv N S X) : I_txt X := h.2.2.2.2.2.2.2.2.2.2.2.2.2.2.2.2.2.2.2.2.2
theorem nI_add_sub (n : Int32) : n + 1 - 1 = n := by rw [Int32.add_sub_cancel]
theorem nI_lt_lit {n k : Nat} {v : Int32} (hv : v = nI k) (hn : n ≤ 100000) (hk : k ≤ 100000) : nI n < v ↔ n < k := by rw [hv, nI_ltI (by omega) (by omega)]
theorem nI_eq_lit {n k : Nat} {v : Int32} (hv : v = nI k) (hn : n ≤ 100000) (hk : k ≤ 100000) : nI n = v ↔ n = k := by rw [hv, nI_eq (by omega) (by omega)]
/-- homes, models, surveys after a write in a fixed cell that is none of theirs -/
theorem I_mod_sI {S : gp_S} {X : gp_H} {a k : Nat} {v : Int32} (hL : Lay S X) (ha : a < 114) (h1 : a < 65 ∨ 69 < a) (h0 : ¬ (a = 0 ∧ k = 4)) (h2 : ¬ (a = 55 ∧ k = 13)) (h : I_mod S X) : I_mod S (gp_sI X a k v) := by
  refine I_mod_cg ?_ ?_ (fun i l r k' => ?_) (fun j hj k' => gI_md hL hj ha) h
  · show (if _ then _ else _) = _
    rw [if_neg (fun q => h0 ⟨q.1.symm, q.2.symm⟩)]
  · show (if _ then _ else _) = _
    rw [if_neg (fun q => h2 ⟨q.1.symm, q.2.symm⟩)]
  · show (if _ then _ else _) = _
    rw [if_neg (fun q => by omega)]
theorem I_hom_sI {N : Nat → Nat} {S : gp_S} {X : gp_H} {a k : Nat} {v : Int32} (hL : Lay S X) (ha : a < 114) (h1 : a < 70 ∨ 78 < a) (h0 : ¬ (a = 0 ∧ k = 6)) (h2 : ¬ (a = 55 ∧ k = 19)) (h : I_hom N S X) : I_hom N S (gp_sI X a k v) := by
  refine I_hom_cg (Nat.le_refl _) ?_ ?_ (fun i l r k' => ?_) (fun j hj k' => gI_hm hL hj ha) h
  · show (if _ then _ else _) = _
    rw [if_neg (fun q => h0 ⟨q.1.symm, q.2.symm⟩)]
  · show (if _ then _ else _) = _
    rw [if_neg (fun q => h2 ⟨q.1.symm, q.2.symm⟩)]
  · show (if _ then _ else _) = _
    rw [if_neg (fun q => by omega)]
theorem I_sur_sI {N : Nat → Nat} {S : gp_S} {X : gp_H} {a k : Nat} {v : Int32} (hL : Lay S X) (ha : a < 114) (h1 : a ≠ 17 ∧ a ≠ 18 ∧ a ≠ 79 ∧ a ≠ 80) (h0 : ¬ (a = 0 ∧ k = 9)) (h2 : ¬ (a = 55 ∧ k = 29)) (h : I_sur N S X) : I_sur N S (gp_sI X a k v) := by
  refine I_sur_cg rfl ?_ ?_ (fun i hi => ?_) (fun j hj => gI_hm hL hj ha) h
  · show (if _ then _ else _) = _
    rw [if_neg (fun q => h0 ⟨q.1.symm, q.2.symm⟩)]
  · show (if _ then _ else _) = _
    rw [if_neg (fun q => h2 ⟨q.1.symm, q.2.symm⟩)]
  · funext k'
    show (if _ then _ else _) = _
    rw [if_neg (fun q => by omega)]
theorem I_she_sI {X : gp_H} {a k : Nat} {v : Int32} (h1 : (a < 49 ∨ 54 < a) ∧ (a < 104 ∨ 106 < a)) (h : I_she X) : I_she (gp_sI X a k v) := by
  have e : ∀ i k', (49 ≤ i ∧ i ≤ 54) ∨ (104 ≤ i ∧ i ≤ 106) → gI (gp_sI X a k v) i k' = gI X i k' := fun i k' hi => by
    show (if _ then _ else _) = _
    rw [if_neg (fun q => by omega)]
  intro s hs
  have := h s hs
  rw [e 49 s (by omega), e 50 s (by omega), e 104 s (by omega), e 105 s (by omega)]
  refine ⟨this.1, this.2.1, fun h3 => ⟨(this.2.2 h3).1, (this.2.2 h3).2.1, fun i hi => ?_⟩⟩
  rw [e (52 + s) i (by omega), e 106 _ (by omega)]
  exact (this.2.2 h3).2.2 i hi
theorem p_limit {E : gp_E} {N : Nat → Nat} {S : gp_S} {X : gp_H} (h : Inv N S X) (x1 : Int32) : Ev E m_ga_limit 0 [(0, .ref 0), (1, .int x1)] [] X (0, 0) (gp_two E m_mo_limit [(0, .ref 55), (1, .int x1)]) := by
  have hL := h.lay
  refine b_ga_limit_0 hL ⟨fun c => ?_, fun c => ?_⟩
  · refine ⟨_, S, rfl, ly_sI hL, b_mo_limit_0 (ly_sI hL) ⟨fun _ => ⟨?_, N, ?_⟩, fun c2 => absurd (c.symm.trans c2) (by decide)⟩⟩
    · exact congrArg (fun z => some (Value.int z)) h.lim.symm
    · exact ⟨h.lay, h.net, h.wrk, h.stp, (I_mod_sI (ly_sI h.lay) (by decide) (by decide) (by decide) (by decide) (I_mod_sI h.lay (by decide) (by decide) (by decide) (by decide) h.mod)), (I_hom_sI (ly_sI h.lay) (by decide) (by decide) (by decide) (by decide) (I_hom_sI h.lay (by decide) (by decide) (by decide) (by decide) h.hom)), h.flt, (I_sur_sI (ly_sI h.lay) (by decide) (by decide) (by decide) (by decide) (I_sur_sI h.lay (by decide) (by decide) (by decide) (by decide) h.sur)), h.stk, h.ord, h.sec, h.pln, h.row, h.wek, h.fit, h.sml, rfl, h.law, h.tap, h.trc, (I_she_sI (by decide) (I_she_sI (by decide) h.she)), h.txt⟩
  · exact ⟨_, S, rfl, hL, b_mo_limit_0 hL ⟨fun c2 => absurd (c.symm.trans c2) (by decide), fun _ => ⟨rfl, N, h⟩⟩⟩
theorem toInt_m1 {n : Nat} (hn : n ≤ 100000) : (nI n - 1).toInt = (n : Int) - 1 := by
  rw [nI_1', pk_sub_toInt (by omega) (by omega)]
  rfl
theorem iw_m1 {v : Int32} {n : Nat} (hn : n ≤ 100000) : iw v (-1) (nI n - 1) = (decide (v = -1) || iw v 0 (nI n - 1)) := by
  by_cases hv : v = -1
  · subst hv
    rw [decide_eq_true rfl]
    unfold iw
    rw [Bool.true_or, Bool.and_eq_true, decide_eq_true_eq, decide_eq_true_eq]
    refine ⟨Int32.le_refl _, ?_⟩
    rw [Int32.le_iff_toInt_le, toInt_m1 hn, show (-1 : Int32).toInt = -1 from by decide]
    omega
  · rw [decide_eq_false hv, Bool.false_or]
    unfold iw
    have e : decide ((-1 : Int32) ≤ v) = decide (0 ≤ v) := by
      apply decide_eq_decide.mpr
      rw [Int32.le_iff_toInt_le, Int32.le_iff_toInt_le]
      have e1 : (-1 : Int32).toInt = -1 := by decide
      have e0 : (0 : Int32).toInt = 0 := by decide
      rw [e1, e0]
      refine ⟨fun q => ?_, fun q => by omega⟩
      rcases (show v.toInt = -1 ∨ 0 ≤ v.toInt by omega) with z | z
      · exact absurd (gp_eqi z e1) hv
      · exact z
    rw [e]
theorem p_terminal {E : gp_E} {N : Nat → Nat} {S : gp_S} {X : gp_H} (h : Inv N S X) (x1 : Int32) : Ev E m_ga_terminal 0 [(0, .ref 0), (1, .int x1)] [] X (0, 0) (gp_two E m_mo_terminal [(0, .ref 55), (1, .int x1)]) := by
  have hL := h.lay
  obtain ⟨⟨k1, k2, k3⟩, q1, q2, q3, q4, q5, q6, q7, q8, q9⟩ := h.net
  have key : ∀ v : Int32, v = -1 ∨ (∃ t, t < N 0 ∧ v = nI t) → v = x1 → Ev E m_ga_terminal 19 [(0, .ref 0), (1, .int x1)] [] X (0, 0) (gp_two E m_mo_terminal [(0, .ref 55), (1, .int x1)]) := by
    intro v hv e
    subst e
    have hi : iw v (-1) (gI X 55 0 - 1) = true := by
      rw [k2, iw_m1 (by omega)]
      rcases hv with hv | ⟨t, ht, hv⟩
      · rw [hv]; rfl
      · rw [hv, iw_of ht (by omega), Bool.or_true]
    refine b_ga_terminal_19 hL ⟨_, S, rfl, ly_sI hL, b_mo_terminal_0 (ly_sI hL) ⟨fun _ => ⟨?_, N, ?_⟩, fun c2 => absurd (hi.symm.trans c2) (by decide)⟩⟩
    · exact congrArg (fun z => some (Value.int z)) q8.symm
    · exact ⟨h.lay, ⟨⟨k1, k2, k3⟩, q1, q2, q3, q4, q5, q6, q7, rfl, hv⟩, h.wrk, h.stp, (I_mod_sI (ly_sI h.lay) (by decide) (by decide) (by decide) (by decide) (I_mod_sI h.lay (by decide) (by decide) (by decide) (by decide) h.mod)), (I_hom_sI (ly_sI h.lay) (by decide) (by decide) (by decide) (by decide) (I_hom_sI h.lay (by decide) (by decide) (by decide) (by decide) h.hom)), h.flt, (I_sur_sI (ly_sI h.lay) (by decide) (by decide) (by decide) (by decide) (I_sur_sI h.lay (by decide) (by decide) (by decide) (by decide) h.sur)), h.stk, h.ord, h.sec, h.pln, h.row, h.wek, h.fit, h.sml, h.lim, h.law, h.tap, h.trc, (I_she_sI (by decide) (I_she_sI (by decide) h.she)), h.txt⟩
  refine b_ga_terminal_0 hL ⟨fun c => key _ (Or.inl c) rfl, fun c => ⟨fun c2 => ?_, fun c2 => ?_⟩⟩
  · rw [k1] at c2
    exact key _ (Or.inr (iw_nI (by omega) c2)) rfl
  · refine ⟨_, S, rfl, hL, b_mo_terminal_0 hL ⟨fun c3 => ?_, fun _ => ⟨rfl, N, h⟩⟩⟩
    rw [k1] at c2
    rw [k2, iw_m1 (by omega), c2, decide_eq_false c] at c3
    exact absurd c3 (by decide)
theorem p_unplan {E : gp_E} {N : Nat → Nat} {S : gp_S} {X : gp_H} (h : Inv N S X) : Ev E m_ga_unplan 0 [(0, .ref 0)] [] X (0, 0) (gp_two E m_mo_unplan [(0, .ref 55)]) := by
  have hL := h.lay
  obtain ⟨⟨k1, k2, k3⟩, q1, q2⟩ := h.pln
  refine b_ga_unplan_0 hL ⟨_, S, rfl, ly_sI hL, b_mo_unplan_0 (ly_sI hL) ⟨?_, fun i => if i = 8 then 0 else N i, ?_⟩⟩
  · exact congrArg (fun z => some (Value.int z)) (k2.trans k1.symm)
  · exact ⟨h.lay, h.net, h.wrk, h.stp, (I_mod_sI (ly_sI h.lay) (by decide) (by decide) (by decide) (by decide) (I_mod_sI h.lay (by decide) (by decide) (by decide) (by decide) h.mod)), (I_hom_sI (ly_sI h.lay) (by decide) (by decide) (by decide) (by decide) (I_hom_sI h.lay (by decide) (by decide) (by decide) (by decide) h.hom)), h.flt, (I_sur_sI (ly_sI h.lay) (by decide) (by decide) (by decide) (by decide) (I_sur_sI h.lay (by decide) (by decide) (by decide) (by decide) h.sur)), h.stk, h.ord, h.sec, ⟨⟨rfl, rfl, Nat.zero_le 7⟩, fun i hi => absurd hi (Nat.not_lt_zero _), fun i j hi => absurd hi (Nat.not_lt_zero _)⟩, h.row, h.wek, h.fit, h.sml, h.lim, h.law, h.tap, h.trc, (I_she_sI (by decide) (I_she_sI (by decide) h.she)), h.txt⟩
theorem p_bestAt {E : gp_E} {N : Nat → Nat} {S : gp_S} {X : gp_H} (h : Inv N S X) (x1 : Int32) : Ev E m_ga_bestAt 0 [(0, .ref 0), (1, .int x1)] [] X (0, 0) (gp_two E m_mo_bestAt [(0, .ref 55), (1, .int x1)]) := by
  have hL := h.lay
  obtain ⟨⟨k1, k2, k3⟩, q1⟩ := h.row
  refine b_ga_bestAt_0 hL ⟨fun c => ?_, fun c => ?_⟩
  · rw [k1] at c
    obtain ⟨i, hi, rfl⟩ := iw_nI (by omega) c
    refine ⟨vin (by omega) (by omega), _, S, rfl, hL, b_mo_bestAt_0 hL ⟨fun c2 => ?_, fun _ => ⟨vin (by omega) (by omega), ?_, N, h⟩⟩⟩
    · rw [k2, c] at c2; exact absurd c2 (by decide)
    · rw [nI_c (by omega), q1 i hi]
  · refine ⟨_, S, rfl, hL, b_mo_bestAt_0 hL ⟨fun _ => ⟨rfl, N, h⟩, fun c2 => ?_⟩⟩
    rw [k1] at c
    rw [k2, c] at c2; exact absurd c2 (by decide)
