/-- v lies in a .. b -/
def iw (v a b : Int32) : Bool := decide (a ≤ v) && decide (v ≤ b)
/-- bit b of s -/
def gb (s b : Int32) : Bool := !decide ((s >>> (b &&& 31)) &&& 1 = 0)
theorem and_one (x : Int32) : x &&& 1 = 0 ∨ x &&& 1 = 1 := by
  have h : (x &&& 1).toBitVec.toNat = x.toBitVec.toNat % 2 := by
    rw [Int32.toBitVec_and, BitVec.toNat_and]
    exact Nat.and_one_is_mod _
  rcases Nat.mod_two_eq_zero_or_one x.toBitVec.toNat with h2 | h2
  · exact Or.inl (Int32.toBitVec_inj.mp (BitVec.eq_of_toNat_eq (by rw [h, h2]; rfl)))
  · exact Or.inr (Int32.toBitVec_inj.mp (BitVec.eq_of_toNat_eq (by rw [h, h2]; rfl)))
theorem gb_one (s b : Int32) : decide ((s >>> (b &&& 31)) &&& 1 = 1) = gb s b := by
  unfold gb
  generalize s >>> (b &&& 31) = x
  rcases and_one x with h | h <;> rw [h] <;> decide
theorem b_ga_isWithin_0 {E : gp_E} {S : gp_S} {X : gp_H} {Q : Option Value → gp_H → Prop} {x0 : Int32} {x1 : Int32} {x2 : Int32} (hX : Lay S X)  (hh : ((x0 < x1 → Q (some (.int 0)) X) ∧ (¬ x0 < x1 → ((x2 < x0 → Q (some (.int 0)) X) ∧ (¬ x2 < x0 → Q (some (.int 1)) X))))) : Ev E m_ga_isWithin 0 [(0, .int x0), (1, .int x1), (2, .int x2)] [] X (0, 0) Q := by
  refine ev_iload_n (x := x0) (pc := 0) d_ga_isWithin_0 rfl ?_
  refine ev_iload_n (x := x1) (pc := 1) d_ga_isWithin_1 rfl ?_
  refine ev_icmp_lt (pc := 2) (tgt := 14) d_ga_isWithin_2 (by decide) (fun c_1 => ?_) (fun c_1 => ?_)
  · have h_2 := hh.1 c_1
    refine ev_iconst (v := 0) (pc := 14) d_ga_isWithin_14 kc_i_0 ?_
    exact ev_iret (pc := 15) ⟨Nat.le_of_ble_eq_true rfl, Nat.le_of_ble_eq_true rfl⟩ d_ga_isWithin_15 rfl nb_0 h_2
  · have h_3 := hh.2 c_1
    refine ev_iload_n (x := x0) (pc := 5) d_ga_isWithin_5 rfl ?_
    refine ev_iload_n (x := x2) (pc := 6) d_ga_isWithin_6 rfl ?_
    refine ev_icmp_gt (pc := 7) (tgt := 14) d_ga_isWithin_7 (by decide) (fun c_4 => ?_) (fun c_4 => ?_)
    · have h_5 := h_3.1 c_4
      refine ev_iconst (v := 0) (pc := 14) d_ga_isWithin_14 kc_i_0 ?_
      exact ev_iret (pc := 15) ⟨Nat.le_of_ble_eq_true rfl, Nat.le_of_ble_eq_true rfl⟩ d_ga_isWithin_15 rfl nb_0 h_5
    · have h_6 := h_3.2 c_4
      refine ev_iconst (v := 1) (pc := 10) d_ga_isWithin_10 kc_i_1 ?_
      refine ev_goto (pc := 11) (tgt := 15) d_ga_isWithin_11 (by decide) ?_
      exact ev_iret (pc := 15) ⟨Nat.le_of_ble_eq_true rfl, Nat.le_of_ble_eq_true rfl⟩ d_ga_isWithin_15 rfl nb_1 h_6
theorem b_mo_in_0 {E : gp_E} {S : gp_S} {X : gp_H} {Q : Option Value → gp_H → Prop} {x0 : Int32} {x1 : Int32} {x2 : Int32} (hX : Lay S X)  (hh : ((x0 < x1 → Q (some (.int 0)) X) ∧ (¬ x0 < x1 → ((x2 < x0 → Q (some (.int 0)) X) ∧ (¬ x2 < x0 → Q (some (.int 1)) X))))) : Ev E m_mo_in 0 [(0, .int x0), (1, .int x1), (2, .int x2)] [] X (0, 0) Q := by
  refine ev_iload_n (x := x0) (pc := 0) d_mo_in_0 rfl ?_
  refine ev_iload_n (x := x1) (pc := 1) d_mo_in_1 rfl ?_
  refine ev_icmp_lt (pc := 2) (tgt := 14) d_mo_in_2 (by decide) (fun c_1 => ?_) (fun c_1 => ?_)
  · have h_2 := hh.1 c_1
    refine ev_iconst (v := 0) (pc := 14) d_mo_in_14 kc_i_0 ?_
    exact ev_iret (pc := 15) ⟨Nat.le_of_ble_eq_true rfl, Nat.le_of_ble_eq_true rfl⟩ d_mo_in_15 rfl nb_0 h_2
  · have h_3 := hh.2 c_1
    refine ev_iload_n (x := x0) (pc := 5) d_mo_in_5 rfl ?_
    refine ev_iload_n (x := x2) (pc := 6) d_mo_in_6 rfl ?_
    refine ev_icmp_gt (pc := 7) (tgt := 14) d_mo_in_7 (by decide) (fun c_4 => ?_) (fun c_4 => ?_)
    · have h_5 := h_3.1 c_4
      refine ev_iconst (v := 0) (pc := 14) d_mo_in_14 kc_i_0 ?_
      exact ev_iret (pc := 15) ⟨Nat.le_of_ble_eq_true rfl, Nat.le_of_ble_eq_true rfl⟩ d_mo_in_15 rfl nb_0 h_5
    · have h_6 := h_3.2 c_4
      refine ev_iconst (v := 1) (pc := 10) d_mo_in_10 kc_i_1 ?_
      refine ev_goto (pc := 11) (tgt := 15) d_mo_in_11 (by decide) ?_
      exact ev_iret (pc := 15) ⟨Nat.le_of_ble_eq_true rfl, Nat.le_of_ble_eq_true rfl⟩ d_mo_in_15 rfl nb_1 h_6
theorem s_ga_isWithin {E : gp_E} {S : gp_S} {X : gp_H} (hX : Lay S X) (v a b : Int32) : Ev E m_ga_isWithin 0 [(0, .int v), (1, .int a), (2, .int b)] [] X (0, 0) (gp_q (some (.int (bz (iw v a b)))) X) := by
  refine b_ga_isWithin_0 hX ⟨fun h => ?_, fun h => ⟨fun h2 => ?_, fun h2 => ?_⟩⟩ <;> refine ⟨?_, rfl⟩
  · rw [iw, decide_eq_false (Int32.not_le.mpr h)]; rfl
  · rw [iw, decide_eq_false (Int32.not_le.mpr h2), Bool.and_false]; rfl
  · rw [iw, decide_eq_true (Int32.not_lt.mp h), decide_eq_true (Int32.not_lt.mp h2)]; rfl
theorem s_mo_in {E : gp_E} {S : gp_S} {X : gp_H} (hX : Lay S X) (v a b : Int32) : Ev E m_mo_in 0 [(0, .int v), (1, .int a), (2, .int b)] [] X (0, 0) (gp_q (some (.int (bz (iw v a b)))) X) := by
  refine b_mo_in_0 hX ⟨fun h => ?_, fun h => ⟨fun h2 => ?_, fun h2 => ?_⟩⟩ <;> refine ⟨?_, rfl⟩
  · rw [iw, decide_eq_false (Int32.not_le.mpr h)]; rfl
  · rw [iw, decide_eq_false (Int32.not_le.mpr h2), Bool.and_false]; rfl
  · rw [iw, decide_eq_true (Int32.not_lt.mp h), decide_eq_true (Int32.not_lt.mp h2)]; rfl
theorem b_ga_isFlag_0 {E : gp_E} {S : gp_S} {X : gp_H} {Q : Option Value → gp_H → Prop} {x0 : Int32} (hX : Lay S X)  (hh : ((x0 = 0 → Q (some (.int 1)) X) ∧ (¬ x0 = 0 → ((¬ x0 = 1 → Q (some (.int 0)) X) ∧ (x0 = 1 → Q (some (.int 1)) X))))) : Ev E m_ga_isFlag 0 [(0, .int x0)] [] X (0, 0) Q := by
  refine ev_iload_n (x := x0) (pc := 0) d_ga_isFlag_0 rfl ?_
  refine ev_if_eq (pc := 1) (tgt := 9) d_ga_isFlag_1 (by decide) (fun c_1 => ?_) (fun c_1 => ?_)
  · have h_2 := hh.1 c_1
    refine ev_iconst (v := 1) (pc := 9) d_ga_isFlag_9 kc_i_1 ?_
    refine ev_goto (pc := 10) (tgt := 14) d_ga_isFlag_10 (by decide) ?_
    exact ev_iret (pc := 14) ⟨Nat.le_of_ble_eq_true rfl, Nat.le_of_ble_eq_true rfl⟩ d_ga_isFlag_14 rfl nb_1 h_2
  · have h_3 := hh.2 c_1
    refine ev_iload_n (x := x0) (pc := 4) d_ga_isFlag_4 rfl ?_
    refine ev_iconst (v := 1) (pc := 5) d_ga_isFlag_5 kc_i_1 ?_
    refine ev_icmp_ne (pc := 6) (tgt := 13) d_ga_isFlag_6 (by decide) (fun c_4 => ?_) (fun c_4 => ?_)
    · have h_5 := h_3.1 c_4
      refine ev_iconst (v := 0) (pc := 13) d_ga_isFlag_13 kc_i_0 ?_
      exact ev_iret (pc := 14) ⟨Nat.le_of_ble_eq_true rfl, Nat.le_of_ble_eq_true rfl⟩ d_ga_isFlag_14 rfl nb_0 h_5
    · have h_6 := h_3.2 c_4
      refine ev_iconst (v := 1) (pc := 9) d_ga_isFlag_9 kc_i_1 ?_
      refine ev_goto (pc := 10) (tgt := 14) d_ga_isFlag_10 (by decide) ?_
      exact ev_iret (pc := 14) ⟨Nat.le_of_ble_eq_true rfl, Nat.le_of_ble_eq_true rfl⟩ d_ga_isFlag_14 rfl nb_1 h_6
theorem b_ga_flag_0 {E : gp_E} {S : gp_S} {X : gp_H} {Q : Option Value → gp_H → Prop} {x0 : Int32} (hX : Lay S X)  (hh : ((x0 = 0 → Q (some (.int 0)) X) ∧ (¬ x0 = 0 → Q (some (.int 1)) X))) : Ev E m_ga_flag 0 [(0, .int x0)] [] X (0, 0) Q := by
  refine ev_iload_n (x := x0) (pc := 0) d_ga_flag_0 rfl ?_
  refine ev_if_eq (pc := 1) (tgt := 8) d_ga_flag_1 (by decide) (fun c_1 => ?_) (fun c_1 => ?_)
  · have h_2 := hh.1 c_1
    refine ev_iconst (v := 0) (pc := 8) d_ga_flag_8 kc_i_0 ?_
    exact ev_iret (pc := 9) ⟨Nat.le_of_ble_eq_true rfl, Nat.le_of_ble_eq_true rfl⟩ d_ga_flag_9 rfl (vp_nar_int _) h_2
  · have h_3 := hh.2 c_1
    refine ev_iconst (v := 1) (pc := 4) d_ga_flag_4 kc_i_1 ?_
    refine ev_goto (pc := 5) (tgt := 9) d_ga_flag_5 (by decide) ?_
    exact ev_iret (pc := 9) ⟨Nat.le_of_ble_eq_true rfl, Nat.le_of_ble_eq_true rfl⟩ d_ga_flag_9 rfl (vp_nar_int _) h_3
theorem b_ga_hasBit_0 {E : gp_E} {S : gp_S} {X : gp_H} {Q : Option Value → gp_H → Prop} {x0 : Int32} {x1 : Int32} (hX : Lay S X)  (hh : ((((x0 >>> (x1 &&& 31)) &&& 1) = 0 → Q (some (.int 0)) X) ∧ (¬ ((x0 >>> (x1 &&& 31)) &&& 1) = 0 → Q (some (.int 1)) X))) : Ev E m_ga_hasBit 0 [(0, .int x0), (1, .int x1)] [] X (0, 0) Q := by
  refine ev_iload_n (x := x0) (pc := 0) d_ga_hasBit_0 rfl ?_
  refine ev_iload_n (x := x1) (pc := 1) d_ga_hasBit_1 rfl ?_
  refine ev_ishr (pc := 2) d_ga_hasBit_2 ?_
  refine ev_iconst (v := 1) (pc := 3) d_ga_hasBit_3 kc_i_1 ?_
  refine ev_iand (pc := 4) d_ga_hasBit_4 ?_
  refine ev_if_eq (pc := 5) (tgt := 12) d_ga_hasBit_5 (by decide) (fun c_1 => ?_) (fun c_1 => ?_)
  · have h_2 := hh.1 c_1
    refine ev_iconst (v := 0) (pc := 12) d_ga_hasBit_12 kc_i_0 ?_
    exact ev_iret (pc := 13) ⟨Nat.le_of_ble_eq_true rfl, Nat.le_of_ble_eq_true rfl⟩ d_ga_hasBit_13 rfl nb_0 h_2
  · have h_3 := hh.2 c_1
    refine ev_iconst (v := 1) (pc := 8) d_ga_hasBit_8 kc_i_1 ?_
    refine ev_goto (pc := 9) (tgt := 13) d_ga_hasBit_9 (by decide) ?_
    exact ev_iret (pc := 13) ⟨Nat.le_of_ble_eq_true rfl, Nat.le_of_ble_eq_true rfl⟩ d_ga_hasBit_13 rfl nb_1 h_3
theorem b_mo_has_0 {E : gp_E} {S : gp_S} {X : gp_H} {Q : Option Value → gp_H → Prop} {x0 : Int32} {x1 : Int32} (hX : Lay S X)  (hh : ((¬ ((x0 >>> (x1 &&& 31)) &&& 1) = 1 → Q (some (.int 0)) X) ∧ (((x0 >>> (x1 &&& 31)) &&& 1) = 1 → Q (some (.int 1)) X))) : Ev E m_mo_has 0 [(0, .int x0), (1, .int x1)] [] X (0, 0) Q := by
  refine ev_iload_n (x := x0) (pc := 0) d_mo_has_0 rfl ?_
  refine ev_iload_n (x := x1) (pc := 1) d_mo_has_1 rfl ?_
  refine ev_ishr (pc := 2) d_mo_has_2 ?_
  refine ev_iconst (v := 1) (pc := 3) d_mo_has_3 kc_i_1 ?_
  refine ev_iand (pc := 4) d_mo_has_4 ?_
  refine ev_iconst (v := 1) (pc := 5) d_mo_has_5 kc_i_1 ?_
  refine ev_icmp_ne (pc := 6) (tgt := 13) d_mo_has_6 (by decide) (fun c_1 => ?_) (fun c_1 => ?_)
  · have h_2 := hh.1 c_1
    refine ev_iconst (v := 0) (pc := 13) d_mo_has_13 kc_i_0 ?_
    exact ev_iret (pc := 14) ⟨Nat.le_of_ble_eq_true rfl, Nat.le_of_ble_eq_true rfl⟩ d_mo_has_14 rfl nb_0 h_2
  · have h_3 := hh.2 c_1
    refine ev_iconst (v := 1) (pc := 9) d_mo_has_9 kc_i_1 ?_
    refine ev_goto (pc := 10) (tgt := 14) d_mo_has_10 (by decide) ?_
    exact ev_iret (pc := 14) ⟨Nat.le_of_ble_eq_true rfl, Nat.le_of_ble_eq_true rfl⟩ d_mo_has_14 rfl nb_1 h_3
theorem b_ga_isJet_0 {E : gp_E} {S : gp_S} {X : gp_H} {Q : Option Value → gp_H → Prop} {x0 : Int32} (hX : Lay S X)  (hh : Q (some (.int (bz (iw x0 0 4)))) X) : Ev E m_ga_isJet 0 [(0, .int x0)] [] X (0, 0) Q := by
  refine ev_iload_n (x := x0) (pc := 0) d_ga_isJet_0 rfl ?_
  refine ev_iconst (v := 0) (pc := 1) d_ga_isJet_1 kc_i_0 ?_
  refine ev_iconst (v := 4) (pc := 2) d_ga_isJet_2 kc_i_4 ?_
  refine ev_callS (z := m_ga_isWithin) (as := [.int x0, .int 0, .int 4]) (rest := []) (pc := 3) d_ga_isJet_3 l_ga_128 i_ga_isWithin o_ga_isWithin rfl rfl (Nat.le_of_ble_eq_true rfl) rfl (Nat.le_of_ble_eq_true rfl) ⟨Nat.le_of_ble_eq_true rfl, Nat.le_of_ble_eq_true rfl⟩ (s_ga_isWithin hX x0 0 4) (fun r X1 hq => ?_)
  obtain ⟨rfl, rfl⟩ := hq
  show Ev E m_ga_isJet 6 [(0, .int x0)] [.int (bz (iw x0 0 4))] X (0, 0) Q
  exact ev_iret (pc := 6) ⟨Nat.le_of_ble_eq_true rfl, Nat.le_of_ble_eq_true rfl⟩ d_ga_isJet_6 rfl (nb_bz _) hh
/-- 0 or 1 -/
def ifl (v : Int32) : Bool := decide (v = 0) || decide (v = 1)
theorem s_ga_isFlag {E : gp_E} {S : gp_S} {X : gp_H} (hX : Lay S X) (v : Int32) : Ev E m_ga_isFlag 0 [(0, .int v)] [] X (0, 0) (gp_q (some (.int (bz (ifl v)))) X) := by
  refine b_ga_isFlag_0 hX ⟨fun h => ?_, fun h => ⟨fun h2 => ?_, fun h2 => ?_⟩⟩ <;> refine ⟨?_, rfl⟩
  · rw [ifl, decide_eq_true h]; rfl
  · rw [ifl, decide_eq_false h, decide_eq_false h2]; rfl
  · rw [ifl, decide_eq_true h2, Bool.or_true]; rfl
theorem s_ga_flag {E : gp_E} {S : gp_S} {X : gp_H} (hX : Lay S X) (v : Int32) : Ev E m_ga_flag 0 [(0, .int v)] [] X (0, 0) (gp_q (some (.int (bz (!decide (v = 0))))) X) := by
  refine b_ga_flag_0 hX ⟨fun h => ?_, fun h => ?_⟩ <;> refine ⟨?_, rfl⟩
  · rw [decide_eq_true h]; rfl
  · rw [decide_eq_false h]; rfl
theorem s_ga_hasBit {E : gp_E} {S : gp_S} {X : gp_H} (hX : Lay S X) (v b : Int32) : Ev E m_ga_hasBit 0 [(0, .int v), (1, .int b)] [] X (0, 0) (gp_q (some (.int (bz (gb v b)))) X) := by
  refine b_ga_hasBit_0 hX ⟨fun h => ?_, fun h => ?_⟩ <;> refine ⟨?_, rfl⟩
  · rw [gb, decide_eq_true h]; rfl
  · rw [gb, decide_eq_false h]; rfl
theorem s_mo_has {E : gp_E} {S : gp_S} {X : gp_H} (hX : Lay S X) (v b : Int32) : Ev E m_mo_has 0 [(0, .int v), (1, .int b)] [] X (0, 0) (gp_q (some (.int (bz (gb v b)))) X) := by
  refine b_mo_has_0 hX ⟨fun h => ?_, fun h => ?_⟩ <;> refine ⟨?_, rfl⟩
  · rw [← gb_one, decide_eq_false h]; rfl
  · rw [← gb_one, decide_eq_true h]; rfl
theorem s_ga_isJet {E : gp_E} {S : gp_S} {X : gp_H} (hX : Lay S X) (v : Int32) : Ev E m_ga_isJet 0 [(0, .int v)] [] X (0, 0) (gp_q (some (.int (bz (iw v 0 4)))) X) := b_ga_isJet_0 hX ⟨rfl, rfl⟩
