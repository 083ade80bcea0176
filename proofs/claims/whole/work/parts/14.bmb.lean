theorem b_mo_needOf_0 {E : gp_E} {S : gp_S} {X : gp_H} {Q : Option Value → gp_H → Prop} {x1 : Int32} {x2 : Int32} {x3 : Int32} {x4 : Int32} (hX : Lay S X)  (hh : Ev E m_mo_needOf 6 [(0, .ref 55), (1, .int x1), (2, .int x2), (3, .int x3), (4, .int x4), (5, .int 0), (6, .int 0)] [] X (0, 0) Q) : Ev E m_mo_needOf 0 [(0, .ref 55), (1, .int x1), (2, .int x2), (3, .int x3), (4, .int x4)] [] X (0, 0) Q := by
  refine ev_iconst (v := 0) (pc := 0) d_mo_needOf_0 kc_i_0 ?_
  refine ev_istore (L2 := [(0, .ref 55), (1, .int x1), (2, .int x2), (3, .int x3), (4, .int x4), (5, .int 0)]) (pc := 1) d_mo_needOf_1 rfl (Nat.le_of_ble_eq_true rfl) rfl ?_
  refine ev_iconst (v := 0) (pc := 3) d_mo_needOf_3 kc_i_0 ?_
  refine ev_istore (L2 := [(0, .ref 55), (1, .int x1), (2, .int x2), (3, .int x3), (4, .int x4), (5, .int 0), (6, .int 0)]) (pc := 4) d_mo_needOf_4 rfl (Nat.le_of_ble_eq_true rfl) rfl ?_
  exact hh
theorem b_mo_needOf_6 {E : gp_E} {S : gp_S} {X : gp_H} {Q : Option Value → gp_H → Prop} {x1 : Int32} {x2 : Int32} {x3 : Int32} {x4 : Int32} {x5 : Int32} {x6 : Int32} (hX : Lay S X)  (hh : (((gI X 55 19) ≤ x6 → Q (some (.int x5)) X) ∧ (¬ (gI X 55 19) ≤ x6 → (vp_in x1 7 ∧ (vp_in x6 40 ∧ (((gb (gI X 85 (Int32.toNatClampNeg x1)) (gI X 70 (Int32.toNatClampNeg x6))) = false → Ev E m_mo_needOf 6 [(0, .ref 55), (1, .int x1), (2, .int x2), (3, .int x3), (4, .int x4), (5, .int x5), (6, .int (x6 + 1))] [] X (0, 0) Q) ∧ ((gb (gI X 85 (Int32.toNatClampNeg x1)) (gI X 70 (Int32.toNatClampNeg x6))) = true → (∃ Qz_7, Ev E m_mo_knownOf 0 [(0, .ref 55), (1, .int x6), (2, .int x3)] [] X (0, 0) Qz_7 ∧ ∀ r X_10, Qz_7 r X_10 → ∃ v_15 : Int32, r = some (.int v_15) ∧ Lay S X_10 ∧ Ev E m_mo_needOf 49 [(0, .ref 55), (1, .int x1), (2, .int x2), (3, .int x3), (4, .int x4), (5, .int x5), (6, .int x6), (7, .int v_15), (8, .int (-1)), (9, .int 0)] [] X_10 (0, 0) Q)))))))) : Ev E m_mo_needOf 6 [(0, .ref 55), (1, .int x1), (2, .int x2), (3, .int x3), (4, .int x4), (5, .int x5), (6, .int x6)] [] X (0, 0) Q := by
  refine ev_iload (x := x6) (pc := 6) d_mo_needOf_6 rfl ?_
  refine ev_aload_n (x := 55) (pc := 8) d_mo_needOf_8 rfl ?_
  refine ev_getJ (v := (gI X 55 19)) (pc := 9) d_mo_needOf_9 f_mo_200 (ly_at hX 55 rfl) gg_12 rfl rfl ?_
  refine ev_icmp_ge (pc := 12) (tgt := 160) d_mo_needOf_12 (by decide) (fun c_1 => ?_) (fun c_1 => ?_)
  · have h_2 := hh.1 c_1
    refine ev_iload (x := x5) (pc := 160) d_mo_needOf_160 rfl ?_
    exact ev_iret (pc := 162) ⟨Nat.le_of_ble_eq_true rfl, Nat.le_of_ble_eq_true rfl⟩ d_mo_needOf_162 rfl (vp_nar_int _) h_2
  · have h_3 := hh.2 c_1
    refine ev_aload_n (x := 55) (pc := 15) d_mo_needOf_15 rfl ?_
    refine ev_getR (pc := 16) d_mo_needOf_16 f_mo_102 (ly_at hX 55 rfl) gg_12 rfl (ly_rf hX 55 38 rfl) ?_
    refine ev_iload_n (x := x1) (pc := 19) d_mo_needOf_19 rfl ?_
    refine ev_ialdJ (v := (gI X 85 (Int32.toNatClampNeg x1))) (pc := 20) d_mo_needOf_20 (ly_at hX 85 rfl) h_3.1 rfl ?_
    refine ev_aload_n (x := 55) (pc := 21) d_mo_needOf_21 rfl ?_
    refine ev_getR (pc := 22) d_mo_needOf_22 f_mo_57 (ly_at hX 55 rfl) gg_12 rfl (ly_rf hX 55 20 rfl) ?_
    refine ev_iload (x := x6) (pc := 25) d_mo_needOf_25 rfl ?_
    refine ev_ialdJ (v := (gI X 70 (Int32.toNatClampNeg x6))) (pc := 27) d_mo_needOf_27 (ly_at hX 70 rfl) h_3.2.1 rfl ?_
    refine ev_callS (z := m_mo_has) (as := [.int (gI X 85 (Int32.toNatClampNeg x1)), .int (gI X 70 (Int32.toNatClampNeg x6))]) (rest := []) (pc := 28) d_mo_needOf_28 l_mo_222 i_mo_has o_mo_has rfl rfl (Nat.le_of_ble_eq_true rfl) rfl (Nat.le_of_ble_eq_true rfl) ⟨Nat.le_of_ble_eq_true rfl, Nat.le_of_ble_eq_true rfl⟩ (s_mo_has hX (gI X 85 (Int32.toNatClampNeg x1)) (gI X 70 (Int32.toNatClampNeg x6))) (fun r X1 hq => ?_)
    obtain ⟨rfl, rfl⟩ := hq
    show Ev E m_mo_needOf 31 [(0, .ref 55), (1, .int x1), (2, .int x2), (3, .int x3), (4, .int x4), (5, .int x5), (6, .int x6)] [.int (bz (gb (gI X 85 (Int32.toNatClampNeg x1)) (gI X 70 (Int32.toNatClampNeg x6))))] X (0, 0) Q
    refine ev_ifz_eq (pc := 31) (tgt := 154) d_mo_needOf_31 (by decide) (fun c_4 => ?_) (fun c_4 => ?_)
    · have h_5 := h_3.2.2.1 c_4
      refine ev_iinc (v := (x6 + 1)) (L2 := [(0, .ref 55), (1, .int x1), (2, .int x2), (3, .int x3), (4, .int x4), (5, .int x5), (6, .int (x6 + 1))]) (pc := 154) d_mo_needOf_154 rfl (by rw [kc_i_1]) rfl (Nat.le_of_ble_eq_true rfl) rfl ?_
      refine ev_goto (pc := 157) (tgt := 6) d_mo_needOf_157 (by decide) ?_
      exact h_5
    · have h_6 := h_3.2.2.2 c_4
      refine ev_aload_n (x := 55) (pc := 34) d_mo_needOf_34 rfl ?_
      refine ev_iload (x := x6) (pc := 35) d_mo_needOf_35 rfl ?_
      refine ev_iload_n (x := x3) (pc := 37) d_mo_needOf_37 rfl ?_
      obtain ⟨Qz_7, hc_8, hk_9⟩ := h_6
      refine ev_callV (z := m_mo_knownOf) (as := [.int x6, .int x3]) (rest := []) (pc := 38) d_mo_needOf_38 (ly_at hX 55 rfl) lt13_12 rfl l_mo_264 i_mo_knownOf v_mo_knownOf o_mo_knownOf rfl rfl (Nat.le_of_ble_eq_true rfl) rfl (Nat.le_of_ble_eq_true rfl) ⟨Nat.le_of_ble_eq_true rfl, Nat.le_of_ble_eq_true rfl⟩ hc_8 (fun r_11 X_10 hq_12 => ?_)
      obtain ⟨v_15, rfl, hX_14, h_13⟩ := hk_9 _ _ hq_12
      show Ev E m_mo_needOf 41 [(0, .ref 55), (1, .int x1), (2, .int x2), (3, .int x3), (4, .int x4), (5, .int x5), (6, .int x6)] [.int v_15] X_10 (0, 0) Q
      refine ev_istore (L2 := [(0, .ref 55), (1, .int x1), (2, .int x2), (3, .int x3), (4, .int x4), (5, .int x5), (6, .int x6), (7, .int v_15)]) (pc := 41) d_mo_needOf_41 rfl (Nat.le_of_ble_eq_true rfl) rfl ?_
      refine ev_iconst (v := (-1)) (pc := 43) d_mo_needOf_43 kc_i_m1 ?_
      refine ev_istore (L2 := [(0, .ref 55), (1, .int x1), (2, .int x2), (3, .int x3), (4, .int x4), (5, .int x5), (6, .int x6), (7, .int v_15), (8, .int (-1))]) (pc := 44) d_mo_needOf_44 rfl (Nat.le_of_ble_eq_true rfl) rfl ?_
      refine ev_iconst (v := 0) (pc := 46) d_mo_needOf_46 kc_i_0 ?_
      refine ev_istore (L2 := [(0, .ref 55), (1, .int x1), (2, .int x2), (3, .int x3), (4, .int x4), (5, .int x5), (6, .int x6), (7, .int v_15), (8, .int (-1)), (9, .int 0)]) (pc := 47) d_mo_needOf_47 rfl (Nat.le_of_ble_eq_true rfl) rfl ?_
      exact h_13
theorem b_mo_needOf_49 {E : gp_E} {S : gp_S} {X : gp_H} {Q : Option Value → gp_H → Prop} {x1 : Int32} {x2 : Int32} {x3 : Int32} {x4 : Int32} {x5 : Int32} {x6 : Int32} {x7 : Int32} {x8 : Int32} {x9 : Int32} (hX : Lay S X)  (hh : (((gI X 55 13) ≤ x9 → Ev E m_mo_needOf 6 [(0, .ref 55), (1, .int x1), (2, .int x2), (3, .int x3), (4, .int x4), (5, .int (x5 + x8)), (6, .int (x6 + 1))] [] X (0, 0) Q) ∧ (¬ (gI X 55 13) ≤ x9 → (vp_in x9 12 ∧ ((¬ (gI X 66 (Int32.toNatClampNeg x9)) = x2 → Ev E m_mo_needOf 80 [(0, .ref 55), (1, .int x1), (2, .int x2), (3, .int x3), (4, .int x4), (5, .int x5), (6, .int x6), (7, .int x7), (8, .int x8), (9, .int x9)] [.int 0] X (0, 0) Q) ∧ ((gI X 66 (Int32.toNatClampNeg x9)) = x2 → Ev E m_mo_needOf 80 [(0, .ref 55), (1, .int x1), (2, .int x2), (3, .int x3), (4, .int x4), (5, .int x5), (6, .int x6), (7, .int x7), (8, .int x8), (9, .int x9)] [.int (gI X 67 (Int32.toNatClampNeg x9))] X (0, 0) Q)))))) : Ev E m_mo_needOf 49 [(0, .ref 55), (1, .int x1), (2, .int x2), (3, .int x3), (4, .int x4), (5, .int x5), (6, .int x6), (7, .int x7), (8, .int x8), (9, .int x9)] [] X (0, 0) Q := by
  refine ev_iload (x := x9) (pc := 49) d_mo_needOf_49 rfl ?_
  refine ev_aload_n (x := 55) (pc := 51) d_mo_needOf_51 rfl ?_
  refine ev_getJ (v := (gI X 55 13)) (pc := 52) d_mo_needOf_52 f_mo_203 (ly_at hX 55 rfl) gg_12 rfl rfl ?_
  refine ev_icmp_ge (pc := 55) (tgt := 147) d_mo_needOf_55 (by decide) (fun c_1 => ?_) (fun c_1 => ?_)
  · have h_2 := hh.1 c_1
    refine ev_iload (x := x5) (pc := 147) d_mo_needOf_147 rfl ?_
    refine ev_iload (x := x8) (pc := 149) d_mo_needOf_149 rfl ?_
    refine ev_iadd (pc := 151) d_mo_needOf_151 ?_
    refine ev_istore (L2 := [(0, .ref 55), (1, .int x1), (2, .int x2), (3, .int x3), (4, .int x4), (5, .int (x5 + x8)), (6, .int x6), (7, .int x7), (8, .int x8), (9, .int x9)]) (pc := 152) d_mo_needOf_152 rfl (Nat.le_of_ble_eq_true rfl) rfl ?_
    refine ev_iinc (v := (x6 + 1)) (L2 := [(0, .ref 55), (1, .int x1), (2, .int x2), (3, .int x3), (4, .int x4), (5, .int (x5 + x8)), (6, .int (x6 + 1)), (7, .int x7), (8, .int x8), (9, .int x9)]) (pc := 154) d_mo_needOf_154 rfl (by rw [kc_i_1]) rfl (Nat.le_of_ble_eq_true rfl) rfl ?_
    refine ev_goto (pc := 157) (tgt := 6) d_mo_needOf_157 (by decide) ?_
    exact ev_sub [(0, .ref 55), (1, .int x1), (2, .int x2), (3, .int x3), (4, .int x4), (5, .int (x5 + x8)), (6, .int (x6 + 1))] (List.forall_mem_cons.mpr ⟨rfl, (List.forall_mem_cons.mpr ⟨rfl, (List.forall_mem_cons.mpr ⟨rfl, (List.forall_mem_cons.mpr ⟨rfl, (List.forall_mem_cons.mpr ⟨rfl, (List.forall_mem_cons.mpr ⟨rfl, (List.forall_mem_cons.mpr ⟨rfl, (fun _ h => nomatch h)⟩)⟩)⟩)⟩)⟩)⟩)⟩) h_2
  · have h_3 := hh.2 c_1
    refine ev_aload_n (x := 55) (pc := 58) d_mo_needOf_58 rfl ?_
    refine ev_getR (pc := 59) d_mo_needOf_59 f_mo_45 (ly_at hX 55 rfl) gg_12 rfl (ly_rf hX 55 15 rfl) ?_
    refine ev_iload (x := x9) (pc := 62) d_mo_needOf_62 rfl ?_
    refine ev_ialdJ (v := (gI X 66 (Int32.toNatClampNeg x9))) (pc := 64) d_mo_needOf_64 (ly_at hX 66 rfl) h_3.1 rfl ?_
    refine ev_iload_n (x := x2) (pc := 65) d_mo_needOf_65 rfl ?_
    refine ev_icmp_ne (pc := 66) (tgt := 79) d_mo_needOf_66 (by decide) (fun c_4 => ?_) (fun c_4 => ?_)
    · have h_5 := h_3.2.1 c_4
      refine ev_iconst (v := 0) (pc := 79) d_mo_needOf_79 kc_i_0 ?_
      exact h_5
    · have h_6 := h_3.2.2 c_4
      refine ev_aload_n (x := 55) (pc := 69) d_mo_needOf_69 rfl ?_
      refine ev_getR (pc := 70) d_mo_needOf_70 f_mo_48 (ly_at hX 55 rfl) gg_12 rfl (ly_rf hX 55 16 rfl) ?_
      refine ev_iload (x := x9) (pc := 73) d_mo_needOf_73 rfl ?_
      refine ev_ialdJ (v := (gI X 67 (Int32.toNatClampNeg x9))) (pc := 75) d_mo_needOf_75 (ly_at hX 67 rfl) h_3.1 rfl ?_
      refine ev_goto (pc := 76) (tgt := 80) d_mo_needOf_76 (by decide) ?_
      exact h_6
theorem b_mo_needOf_80 {E : gp_E} {S : gp_S} {X : gp_H} {Q : Option Value → gp_H → Prop} {x1 : Int32} {x2 : Int32} {x3 : Int32} {x4 : Int32} {x5 : Int32} {x6 : Int32} {x7 : Int32} {x8 : Int32} {x9 : Int32} {t0 : Int32} (hX : Lay S X)  (hh : ((x8 = (-1) → Ev E m_mo_needOf 110 [(0, .ref 55), (1, .int x1), (2, .int x2), (3, .int x3), (4, .int x4), (5, .int x5), (6, .int x6), (7, .int x7), (8, .int x8), (9, .int x9), (10, .int t0)] [] X (0, 0) Q) ∧ (¬ x8 = (-1) → ((x4 = 0 → ((x8 ≤ t0 → Ev E m_mo_needOf 114 [(0, .ref 55), (1, .int x1), (2, .int x2), (3, .int x3), (4, .int x4), (5, .int x5), (6, .int x6), (7, .int x7), (8, .int x8), (9, .int x9), (10, .int t0)] [] X (0, 0) Q) ∧ (¬ x8 ≤ t0 → Ev E m_mo_needOf 110 [(0, .ref 55), (1, .int x1), (2, .int x2), (3, .int x3), (4, .int x4), (5, .int x5), (6, .int x6), (7, .int x7), (8, .int x8), (9, .int x9), (10, .int t0)] [] X (0, 0) Q))) ∧ (¬ x4 = 0 → ((t0 ≤ x8 → Ev E m_mo_needOf 114 [(0, .ref 55), (1, .int x1), (2, .int x2), (3, .int x3), (4, .int x4), (5, .int x5), (6, .int x6), (7, .int x7), (8, .int x8), (9, .int x9), (10, .int t0)] [] X (0, 0) Q) ∧ (¬ t0 ≤ x8 → Ev E m_mo_needOf 110 [(0, .ref 55), (1, .int x1), (2, .int x2), (3, .int x3), (4, .int x4), (5, .int x5), (6, .int x6), (7, .int x7), (8, .int x8), (9, .int x9), (10, .int t0)] [] X (0, 0) Q))))))) : Ev E m_mo_needOf 80 [(0, .ref 55), (1, .int x1), (2, .int x2), (3, .int x3), (4, .int x4), (5, .int x5), (6, .int x6), (7, .int x7), (8, .int x8), (9, .int x9)] [.int t0] X (0, 0) Q := by
  refine ev_istore (L2 := [(0, .ref 55), (1, .int x1), (2, .int x2), (3, .int x3), (4, .int x4), (5, .int x5), (6, .int x6), (7, .int x7), (8, .int x8), (9, .int x9), (10, .int t0)]) (pc := 80) d_mo_needOf_80 rfl (Nat.le_of_ble_eq_true rfl) rfl ?_
  refine ev_iload (x := x8) (pc := 82) d_mo_needOf_82 rfl ?_
  refine ev_iconst (v := (-1)) (pc := 84) d_mo_needOf_84 kc_i_m1 ?_
  refine ev_icmp_eq (pc := 85) (tgt := 110) d_mo_needOf_85 (by decide) (fun c_1 => ?_) (fun c_1 => ?_)
  · have h_2 := hh.1 c_1
    exact h_2
  · have h_3 := hh.2 c_1
    refine ev_iload (x := x4) (pc := 88) d_mo_needOf_88 rfl ?_
    refine ev_if_eq (pc := 90) (tgt := 103) d_mo_needOf_90 (by decide) (fun c_4 => ?_) (fun c_4 => ?_)
    · have h_5 := h_3.1 c_4
      refine ev_iload (x := t0) (pc := 103) d_mo_needOf_103 rfl ?_
      refine ev_iload (x := x8) (pc := 105) d_mo_needOf_105 rfl ?_
      refine ev_icmp_ge (pc := 107) (tgt := 114) d_mo_needOf_107 (by decide) (fun c_7 => ?_) (fun c_7 => ?_)
      · have h_8 := h_5.1 c_7
        exact h_8
      · have h_9 := h_5.2 c_7
        exact h_9
    · have h_6 := h_3.2 c_4
      refine ev_iload (x := t0) (pc := 93) d_mo_needOf_93 rfl ?_
      refine ev_iload (x := x8) (pc := 95) d_mo_needOf_95 rfl ?_
      refine ev_icmp_le (pc := 97) (tgt := 114) d_mo_needOf_97 (by decide) (fun c_10 => ?_) (fun c_10 => ?_)
      · have h_11 := h_6.1 c_10
        exact h_11
      · have h_12 := h_6.2 c_10
        refine ev_goto (pc := 100) (tgt := 110) d_mo_needOf_100 (by decide) ?_
        exact h_12
theorem b_mo_needOf_110 {E : gp_E} {S : gp_S} {X : gp_H} {Q : Option Value → gp_H → Prop} {x1 : Int32} {x2 : Int32} {x3 : Int32} {x4 : Int32} {x5 : Int32} {x6 : Int32} {x7 : Int32} {x8 : Int32} {x9 : Int32} {x10 : Int32} (hX : Lay S X)  (hh : Ev E m_mo_needOf 115 [(0, .ref 55), (1, .int x1), (2, .int x2), (3, .int x3), (4, .int x4), (5, .int x5), (6, .int x6), (7, .int x7), (8, .int x8), (9, .int x9), (10, .int x10)] [.int 1] X (0, 0) Q) : Ev E m_mo_needOf 110 [(0, .ref 55), (1, .int x1), (2, .int x2), (3, .int x3), (4, .int x4), (5, .int x5), (6, .int x6), (7, .int x7), (8, .int x8), (9, .int x9), (10, .int x10)] [] X (0, 0) Q := by
  refine ev_iconst (v := 1) (pc := 110) d_mo_needOf_110 kc_i_1 ?_
  refine ev_goto (pc := 111) (tgt := 115) d_mo_needOf_111 (by decide) ?_
  exact hh
theorem b_mo_needOf_114 {E : gp_E} {S : gp_S} {X : gp_H} {Q : Option Value → gp_H → Prop} {x1 : Int32} {x2 : Int32} {x3 : Int32} {x4 : Int32} {x5 : Int32} {x6 : Int32} {x7 : Int32} {x8 : Int32} {x9 : Int32} {x10 : Int32} (hX : Lay S X)  (hh : Ev E m_mo_needOf 115 [(0, .ref 55), (1, .int x1), (2, .int x2), (3, .int x3), (4, .int x4), (5, .int x5), (6, .int x6), (7, .int x7), (8, .int x8), (9, .int x9), (10, .int x10)] [.int 0] X (0, 0) Q) : Ev E m_mo_needOf 114 [(0, .ref 55), (1, .int x1), (2, .int x2), (3, .int x3), (4, .int x4), (5, .int x5), (6, .int x6), (7, .int x7), (8, .int x8), (9, .int x9), (10, .int x10)] [] X (0, 0) Q := by
  refine ev_iconst (v := 0) (pc := 114) d_mo_needOf_114 kc_i_0 ?_
  exact hh
theorem b_mo_needOf_115 {E : gp_E} {S : gp_S} {X : gp_H} {Q : Option Value → gp_H → Prop} {x1 : Int32} {x2 : Int32} {x3 : Int32} {x4 : Int32} {x5 : Int32} {x6 : Int32} {x7 : Int32} {x8 : Int32} {x9 : Int32} {x10 : Int32} {t0 : Int32} (hX : Lay S X)  (hh : (((gb x7 x9) = false → Ev E m_mo_needOf 49 [(0, .ref 55), (1, .int x1), (2, .int x2), (3, .int x3), (4, .int x4), (5, .int x5), (6, .int x6), (7, .int x7), (8, .int x8), (9, .int (x9 + 1))] [] X (0, 0) Q) ∧ ((gb x7 x9) = true → ((t0 = 0 → Ev E m_mo_needOf 49 [(0, .ref 55), (1, .int x1), (2, .int x2), (3, .int x3), (4, .int x4), (5, .int x5), (6, .int x6), (7, .int x7), (8, .int x8), (9, .int (x9 + 1))] [] X (0, 0) Q) ∧ (¬ t0 = 0 → Ev E m_mo_needOf 49 [(0, .ref 55), (1, .int x1), (2, .int x2), (3, .int x3), (4, .int x4), (5, .int x5), (6, .int x6), (7, .int x7), (8, .int x10), (9, .int (x9 + 1))] [] X (0, 0) Q))))) : Ev E m_mo_needOf 115 [(0, .ref 55), (1, .int x1), (2, .int x2), (3, .int x3), (4, .int x4), (5, .int x5), (6, .int x6), (7, .int x7), (8, .int x8), (9, .int x9), (10, .int x10)] [.int t0] X (0, 0) Q := by
  refine ev_istore (L2 := [(0, .ref 55), (1, .int x1), (2, .int x2), (3, .int x3), (4, .int x4), (5, .int x5), (6, .int x6), (7, .int x7), (8, .int x8), (9, .int x9), (10, .int x10), (11, .int t0)]) (pc := 115) d_mo_needOf_115 rfl (Nat.le_of_ble_eq_true rfl) rfl ?_
  refine ev_iload (x := x7) (pc := 117) d_mo_needOf_117 rfl ?_
  refine ev_iload (x := x9) (pc := 119) d_mo_needOf_119 rfl ?_
  refine ev_callS (z := m_mo_has) (as := [.int x7, .int x9]) (rest := []) (pc := 121) d_mo_needOf_121 l_mo_222 i_mo_has o_mo_has rfl rfl (Nat.le_of_ble_eq_true rfl) rfl (Nat.le_of_ble_eq_true rfl) ⟨Nat.le_of_ble_eq_true rfl, Nat.le_of_ble_eq_true rfl⟩ (s_mo_has hX x7 x9) (fun r X1 hq => ?_)
  obtain ⟨rfl, rfl⟩ := hq
  show Ev E m_mo_needOf 124 [(0, .ref 55), (1, .int x1), (2, .int x2), (3, .int x3), (4, .int x4), (5, .int x5), (6, .int x6), (7, .int x7), (8, .int x8), (9, .int x9), (10, .int x10), (11, .int t0)] [.int (bz (gb x7 x9))] X (0, 0) Q
  refine ev_ifz_eq (pc := 124) (tgt := 137) d_mo_needOf_124 (by decide) (fun c_1 => ?_) (fun c_1 => ?_)
  · have h_2 := hh.1 c_1
    refine ev_iload (x := x8) (pc := 137) d_mo_needOf_137 rfl ?_
    refine ev_istore (L2 := [(0, .ref 55), (1, .int x1), (2, .int x2), (3, .int x3), (4, .int x4), (5, .int x5), (6, .int x6), (7, .int x7), (8, .int x8), (9, .int x9), (10, .int x10), (11, .int t0)]) (pc := 139) d_mo_needOf_139 rfl (Nat.le_of_ble_eq_true rfl) rfl ?_
    refine ev_iinc (v := (x9 + 1)) (L2 := [(0, .ref 55), (1, .int x1), (2, .int x2), (3, .int x3), (4, .int x4), (5, .int x5), (6, .int x6), (7, .int x7), (8, .int x8), (9, .int (x9 + 1)), (10, .int x10), (11, .int t0)]) (pc := 141) d_mo_needOf_141 rfl (by rw [kc_i_1]) rfl (Nat.le_of_ble_eq_true rfl) rfl ?_
    refine ev_goto (pc := 144) (tgt := 49) d_mo_needOf_144 (by decide) ?_
    exact ev_sub [(0, .ref 55), (1, .int x1), (2, .int x2), (3, .int x3), (4, .int x4), (5, .int x5), (6, .int x6), (7, .int x7), (8, .int x8), (9, .int (x9 + 1))] (List.forall_mem_cons.mpr ⟨rfl, (List.forall_mem_cons.mpr ⟨rfl, (List.forall_mem_cons.mpr ⟨rfl, (List.forall_mem_cons.mpr ⟨rfl, (List.forall_mem_cons.mpr ⟨rfl, (List.forall_mem_cons.mpr ⟨rfl, (List.forall_mem_cons.mpr ⟨rfl, (List.forall_mem_cons.mpr ⟨rfl, (List.forall_mem_cons.mpr ⟨rfl, (List.forall_mem_cons.mpr ⟨rfl, (fun _ h => nomatch h)⟩)⟩)⟩)⟩)⟩)⟩)⟩)⟩)⟩)⟩) h_2
  · have h_3 := hh.2 c_1
    refine ev_iload (x := t0) (pc := 127) d_mo_needOf_127 rfl ?_
    refine ev_if_eq (pc := 129) (tgt := 137) d_mo_needOf_129 (by decide) (fun c_4 => ?_) (fun c_4 => ?_)
    · have h_5 := h_3.1 c_4
      refine ev_iload (x := x8) (pc := 137) d_mo_needOf_137 rfl ?_
      refine ev_istore (L2 := [(0, .ref 55), (1, .int x1), (2, .int x2), (3, .int x3), (4, .int x4), (5, .int x5), (6, .int x6), (7, .int x7), (8, .int x8), (9, .int x9), (10, .int x10), (11, .int t0)]) (pc := 139) d_mo_needOf_139 rfl (Nat.le_of_ble_eq_true rfl) rfl ?_
      refine ev_iinc (v := (x9 + 1)) (L2 := [(0, .ref 55), (1, .int x1), (2, .int x2), (3, .int x3), (4, .int x4), (5, .int x5), (6, .int x6), (7, .int x7), (8, .int x8), (9, .int (x9 + 1)), (10, .int x10), (11, .int t0)]) (pc := 141) d_mo_needOf_141 rfl (by rw [kc_i_1]) rfl (Nat.le_of_ble_eq_true rfl) rfl ?_
      refine ev_goto (pc := 144) (tgt := 49) d_mo_needOf_144 (by decide) ?_
      exact ev_sub [(0, .ref 55), (1, .int x1), (2, .int x2), (3, .int x3), (4, .int x4), (5, .int x5), (6, .int x6), (7, .int x7), (8, .int x8), (9, .int (x9 + 1))] (List.forall_mem_cons.mpr ⟨rfl, (List.forall_mem_cons.mpr ⟨rfl, (List.forall_mem_cons.mpr ⟨rfl, (List.forall_mem_cons.mpr ⟨rfl, (List.forall_mem_cons.mpr ⟨rfl, (List.forall_mem_cons.mpr ⟨rfl, (List.forall_mem_cons.mpr ⟨rfl, (List.forall_mem_cons.mpr ⟨rfl, (List.forall_mem_cons.mpr ⟨rfl, (List.forall_mem_cons.mpr ⟨rfl, (fun _ h => nomatch h)⟩)⟩)⟩)⟩)⟩)⟩)⟩)⟩)⟩)⟩) h_5
    · have h_6 := h_3.2 c_4
      refine ev_iload (x := x10) (pc := 132) d_mo_needOf_132 rfl ?_
      refine ev_goto (pc := 134) (tgt := 139) d_mo_needOf_134 (by decide) ?_
      refine ev_istore (L2 := [(0, .ref 55), (1, .int x1), (2, .int x2), (3, .int x3), (4, .int x4), (5, .int x5), (6, .int x6), (7, .int x7), (8, .int x10), (9, .int x9), (10, .int x10), (11, .int t0)]) (pc := 139) d_mo_needOf_139 rfl (Nat.le_of_ble_eq_true rfl) rfl ?_
      refine ev_iinc (v := (x9 + 1)) (L2 := [(0, .ref 55), (1, .int x1), (2, .int x2), (3, .int x3), (4, .int x4), (5, .int x5), (6, .int x6), (7, .int x7), (8, .int x10), (9, .int (x9 + 1)), (10, .int x10), (11, .int t0)]) (pc := 141) d_mo_needOf_141 rfl (by rw [kc_i_1]) rfl (Nat.le_of_ble_eq_true rfl) rfl ?_
      refine ev_goto (pc := 144) (tgt := 49) d_mo_needOf_144 (by decide) ?_
      exact ev_sub [(0, .ref 55), (1, .int x1), (2, .int x2), (3, .int x3), (4, .int x4), (5, .int x5), (6, .int x6), (7, .int x7), (8, .int x10), (9, .int (x9 + 1))] (List.forall_mem_cons.mpr ⟨rfl, (List.forall_mem_cons.mpr ⟨rfl, (List.forall_mem_cons.mpr ⟨rfl, (List.forall_mem_cons.mpr ⟨rfl, (List.forall_mem_cons.mpr ⟨rfl, (List.forall_mem_cons.mpr ⟨rfl, (List.forall_mem_cons.mpr ⟨rfl, (List.forall_mem_cons.mpr ⟨rfl, (List.forall_mem_cons.mpr ⟨rfl, (List.forall_mem_cons.mpr ⟨rfl, (fun _ h => nomatch h)⟩)⟩)⟩)⟩)⟩)⟩)⟩)⟩)⟩)⟩) h_6
theorem b_mo_homeOf_0 {E : gp_E} {S : gp_S} {X : gp_H} {Q : Option Value → gp_H → Prop} {x1 : Int32} {x2 : Int32} (hX : Lay S X)  (hh : (((iw x1 0 ((gI X 55 19) - 1)) = true → (((x2.toInt < 0 ∨ 7 < x2.toInt) → Q (some (.int (-5))) X) ∧ (x2 = 0 → (vp_in x1 40 ∧ Q (some (.int (gI X 70 (Int32.toNatClampNeg x1)))) X)) ∧ (x2 = 1 → (vp_in x1 40 ∧ Q (some (.int (gI X 71 (Int32.toNatClampNeg x1)))) X)) ∧ (x2 = 2 → (vp_in x1 40 ∧ Q (some (.int (gI X 72 (Int32.toNatClampNeg x1)))) X)) ∧ (x2 = 3 → (vp_in x1 40 ∧ Q (some (.int (gI X 74 (Int32.toNatClampNeg x1)))) X)) ∧ (x2 = 4 → (vp_in x1 40 ∧ Q (some (.int (gI X 75 (Int32.toNatClampNeg x1)))) X)) ∧ (x2 = 5 → (vp_in x1 40 ∧ Q (some (.int (gI X 76 (Int32.toNatClampNeg x1)))) X)) ∧ (x2 = 6 → (vp_in x1 40 ∧ Q (some (.int (gI X 77 (Int32.toNatClampNeg x1)))) X)) ∧ (x2 = 7 → (vp_in x1 40 ∧ (((gI X 78 (Int32.toNatClampNeg x1)) = 0 → Q (some (.int 0)) X) ∧ (¬ (gI X 78 (Int32.toNatClampNeg x1)) = 0 → Q (some (.int 1)) X)))))) ∧ ((iw x1 0 ((gI X 55 19) - 1)) = false → Q (some (.int (-5))) X))) : Ev E m_mo_homeOf 0 [(0, .ref 55), (1, .int x1), (2, .int x2)] [] X (0, 0) Q := by
  refine ev_aload_n (x := 55) (pc := 0) d_mo_homeOf_0 rfl ?_
  refine ev_iload_n (x := x1) (pc := 1) d_mo_homeOf_1 rfl ?_
  refine ev_callV (z := m_mo_isHome) (as := [.int x1]) (rest := []) (pc := 2) d_mo_homeOf_2 (ly_at hX 55 rfl) lt13_12 rfl l_mo_251 i_mo_isHome v_mo_isHome o_mo_isHome rfl rfl (Nat.le_of_ble_eq_true rfl) rfl (Nat.le_of_ble_eq_true rfl) ⟨Nat.le_of_ble_eq_true rfl, Nat.le_of_ble_eq_true rfl⟩ (s_mo_isHome hX x1 ) (fun r X1 hq => ?_)
  obtain ⟨rfl, rfl⟩ := hq
  show Ev E m_mo_homeOf 5 [(0, .ref 55), (1, .int x1), (2, .int x2)] [.int (bz (iw x1 0 ((gI X 55 19) - 1)))] X (0, 0) Q
  refine ev_ifz_ne (pc := 5) (tgt := 11) d_mo_homeOf_5 (by decide) (fun c_1 => ?_) (fun c_1 => ?_)
  · have h_2 := hh.1 c_1
    refine ev_iload_n (x := x2) (pc := 11) d_mo_homeOf_11 rfl ?_
    rcases gp_tab (lo := 0) (n := 8) x2 with c_16 | ⟨k, hk, c_16⟩
    · have h_4 := h_2.1 (by omega)
      refine ev_tableOut (pc := 12) (tgt := 124) d_mo_homeOf_12 (by omega) (by decide) ?_
      refine ev_bipush (v := (-5)) (pc := 124) d_mo_homeOf_124 kc_b_m5 ?_
      exact ev_iret (pc := 126) ⟨Nat.le_of_ble_eq_true rfl, Nat.le_of_ble_eq_true rfl⟩ d_mo_homeOf_126 rfl (vp_nar_int _) h_4
    · match k, hk, c_16 with
      | 0, _, c_16 =>
        have c_16e : x2 = 0 := gp_eqi (c_16.trans (by decide : (0 : Int) + ((0 : Nat) : Int) = 0)) (by decide)
        have h_5 := h_2.2.1 c_16e
        refine ev_tableIn (pc := 12) (off := 48) (tgt := 60) d_mo_homeOf_12 (by rw [c_16e]; decide) (by rw [c_16e]; decide) (by rw [c_16e]; decide) (by decide) ?_
        refine ev_aload_n (x := 55) (pc := 60) d_mo_homeOf_60 rfl ?_
        refine ev_getR (pc := 61) d_mo_homeOf_61 f_mo_57 (ly_at hX 55 rfl) gg_12 rfl (ly_rf hX 55 20 rfl) ?_
        refine ev_iload_n (x := x1) (pc := 64) d_mo_homeOf_64 rfl ?_
        refine ev_ialdJ (v := (gI X 70 (Int32.toNatClampNeg x1))) (pc := 65) d_mo_homeOf_65 (ly_at hX 70 rfl) h_5.1 rfl ?_
        exact ev_iret (pc := 66) ⟨Nat.le_of_ble_eq_true rfl, Nat.le_of_ble_eq_true rfl⟩ d_mo_homeOf_66 rfl (vp_nar_int _) h_5.2
      | 1, _, c_16 =>
        have c_16e : x2 = 1 := gp_eqi (c_16.trans (by decide : (0 : Int) + ((1 : Nat) : Int) = 1)) (by decide)
        have h_6 := h_2.2.2.1 c_16e
        refine ev_tableIn (pc := 12) (off := 55) (tgt := 67) d_mo_homeOf_12 (by rw [c_16e]; decide) (by rw [c_16e]; decide) (by rw [c_16e]; decide) (by decide) ?_
        refine ev_aload_n (x := 55) (pc := 67) d_mo_homeOf_67 rfl ?_
        refine ev_getR (pc := 68) d_mo_homeOf_68 f_mo_60 (ly_at hX 55 rfl) gg_12 rfl (ly_rf hX 55 21 rfl) ?_
        refine ev_iload_n (x := x1) (pc := 71) d_mo_homeOf_71 rfl ?_
        refine ev_ialdJ (v := (gI X 71 (Int32.toNatClampNeg x1))) (pc := 72) d_mo_homeOf_72 (ly_at hX 71 rfl) h_6.1 rfl ?_
        exact ev_iret (pc := 73) ⟨Nat.le_of_ble_eq_true rfl, Nat.le_of_ble_eq_true rfl⟩ d_mo_homeOf_73 rfl (vp_nar_int _) h_6.2
      | 2, _, c_16 =>
        have c_16e : x2 = 2 := gp_eqi (c_16.trans (by decide : (0 : Int) + ((2 : Nat) : Int) = 2)) (by decide)
        have h_7 := h_2.2.2.2.1 c_16e
        refine ev_tableIn (pc := 12) (off := 62) (tgt := 74) d_mo_homeOf_12 (by rw [c_16e]; decide) (by rw [c_16e]; decide) (by rw [c_16e]; decide) (by decide) ?_
        refine ev_aload_n (x := 55) (pc := 74) d_mo_homeOf_74 rfl ?_
        refine ev_getR (pc := 75) d_mo_homeOf_75 f_mo_63 (ly_at hX 55 rfl) gg_12 rfl (ly_rf hX 55 22 rfl) ?_
        refine ev_iload_n (x := x1) (pc := 78) d_mo_homeOf_78 rfl ?_
        refine ev_ialdJ (v := (gI X 72 (Int32.toNatClampNeg x1))) (pc := 79) d_mo_homeOf_79 (ly_at hX 72 rfl) h_7.1 rfl ?_
        exact ev_iret (pc := 80) ⟨Nat.le_of_ble_eq_true rfl, Nat.le_of_ble_eq_true rfl⟩ d_mo_homeOf_80 rfl (vp_nar_int _) h_7.2
      | 3, _, c_16 =>
        have c_16e : x2 = 3 := gp_eqi (c_16.trans (by decide : (0 : Int) + ((3 : Nat) : Int) = 3)) (by decide)
        have h_8 := h_2.2.2.2.2.1 c_16e
        refine ev_tableIn (pc := 12) (off := 69) (tgt := 81) d_mo_homeOf_12 (by rw [c_16e]; decide) (by rw [c_16e]; decide) (by rw [c_16e]; decide) (by decide) ?_
        refine ev_aload_n (x := 55) (pc := 81) d_mo_homeOf_81 rfl ?_
        refine ev_getR (pc := 82) d_mo_homeOf_82 f_mo_69 (ly_at hX 55 rfl) gg_12 rfl (ly_rf hX 55 24 rfl) ?_
        refine ev_iload_n (x := x1) (pc := 85) d_mo_homeOf_85 rfl ?_
        refine ev_ialdJ (v := (gI X 74 (Int32.toNatClampNeg x1))) (pc := 86) d_mo_homeOf_86 (ly_at hX 74 rfl) h_8.1 rfl ?_
        exact ev_iret (pc := 87) ⟨Nat.le_of_ble_eq_true rfl, Nat.le_of_ble_eq_true rfl⟩ d_mo_homeOf_87 rfl (vp_nar_int _) h_8.2
      | 4, _, c_16 =>
        have c_16e : x2 = 4 := gp_eqi (c_16.trans (by decide : (0 : Int) + ((4 : Nat) : Int) = 4)) (by decide)
        have h_9 := h_2.2.2.2.2.2.1 c_16e
        refine ev_tableIn (pc := 12) (off := 76) (tgt := 88) d_mo_homeOf_12 (by rw [c_16e]; decide) (by rw [c_16e]; decide) (by rw [c_16e]; decide) (by decide) ?_
        refine ev_aload_n (x := 55) (pc := 88) d_mo_homeOf_88 rfl ?_
        refine ev_getR (pc := 89) d_mo_homeOf_89 f_mo_72 (ly_at hX 55 rfl) gg_12 rfl (ly_rf hX 55 25 rfl) ?_
        refine ev_iload_n (x := x1) (pc := 92) d_mo_homeOf_92 rfl ?_
        refine ev_ialdJ (v := (gI X 75 (Int32.toNatClampNeg x1))) (pc := 93) d_mo_homeOf_93 (ly_at hX 75 rfl) h_9.1 rfl ?_
        exact ev_iret (pc := 94) ⟨Nat.le_of_ble_eq_true rfl, Nat.le_of_ble_eq_true rfl⟩ d_mo_homeOf_94 rfl (vp_nar_int _) h_9.2
      | 5, _, c_16 =>
        have c_16e : x2 = 5 := gp_eqi (c_16.trans (by decide : (0 : Int) + ((5 : Nat) : Int) = 5)) (by decide)
        have h_10 := h_2.2.2.2.2.2.2.1 c_16e
        refine ev_tableIn (pc := 12) (off := 83) (tgt := 95) d_mo_homeOf_12 (by rw [c_16e]; decide) (by rw [c_16e]; decide) (by rw [c_16e]; decide) (by decide) ?_
        refine ev_aload_n (x := 55) (pc := 95) d_mo_homeOf_95 rfl ?_
        refine ev_getR (pc := 96) d_mo_homeOf_96 f_mo_75 (ly_at hX 55 rfl) gg_12 rfl (ly_rf hX 55 26 rfl) ?_
        refine ev_iload_n (x := x1) (pc := 99) d_mo_homeOf_99 rfl ?_
        refine ev_ialdJ (v := (gI X 76 (Int32.toNatClampNeg x1))) (pc := 100) d_mo_homeOf_100 (ly_at hX 76 rfl) h_10.1 rfl ?_
        exact ev_iret (pc := 101) ⟨Nat.le_of_ble_eq_true rfl, Nat.le_of_ble_eq_true rfl⟩ d_mo_homeOf_101 rfl (vp_nar_int _) h_10.2
      | 6, _, c_16 =>
        have c_16e : x2 = 6 := gp_eqi (c_16.trans (by decide : (0 : Int) + ((6 : Nat) : Int) = 6)) (by decide)
        have h_11 := h_2.2.2.2.2.2.2.2.1 c_16e
        refine ev_tableIn (pc := 12) (off := 90) (tgt := 102) d_mo_homeOf_12 (by rw [c_16e]; decide) (by rw [c_16e]; decide) (by rw [c_16e]; decide) (by decide) ?_
        refine ev_aload_n (x := 55) (pc := 102) d_mo_homeOf_102 rfl ?_
        refine ev_getR (pc := 103) d_mo_homeOf_103 f_mo_78 (ly_at hX 55 rfl) gg_12 rfl (ly_rf hX 55 27 rfl) ?_
        refine ev_iload_n (x := x1) (pc := 106) d_mo_homeOf_106 rfl ?_
        refine ev_ialdJ (v := (gI X 77 (Int32.toNatClampNeg x1))) (pc := 107) d_mo_homeOf_107 (ly_at hX 77 rfl) h_11.1 rfl ?_
        exact ev_iret (pc := 108) ⟨Nat.le_of_ble_eq_true rfl, Nat.le_of_ble_eq_true rfl⟩ d_mo_homeOf_108 rfl (vp_nar_int _) h_11.2
      | 7, _, c_16 =>
        have c_16e : x2 = 7 := gp_eqi (c_16.trans (by decide : (0 : Int) + ((7 : Nat) : Int) = 7)) (by decide)
        have h_12 := h_2.2.2.2.2.2.2.2.2 c_16e
        refine ev_tableIn (pc := 12) (off := 97) (tgt := 109) d_mo_homeOf_12 (by rw [c_16e]; decide) (by rw [c_16e]; decide) (by rw [c_16e]; decide) (by decide) ?_
        refine ev_aload_n (x := 55) (pc := 109) d_mo_homeOf_109 rfl ?_
        refine ev_getR (pc := 110) d_mo_homeOf_110 f_mo_81 (ly_at hX 55 rfl) gg_12 rfl (ly_rf hX 55 28 rfl) ?_
        refine ev_iload_n (x := x1) (pc := 113) d_mo_homeOf_113 rfl ?_
        refine ev_zaldJ (v := (gI X 78 (Int32.toNatClampNeg x1))) (pc := 114) d_mo_homeOf_114 (ly_at hX 78 rfl) h_12.1 rfl ?_
        refine ev_if_eq (pc := 115) (tgt := 122) d_mo_homeOf_115 (by decide) (fun c_13 => ?_) (fun c_13 => ?_)
        · have h_14 := h_12.2.1 c_13
          refine ev_iconst (v := 0) (pc := 122) d_mo_homeOf_122 kc_i_0 ?_
          exact ev_iret (pc := 123) ⟨Nat.le_of_ble_eq_true rfl, Nat.le_of_ble_eq_true rfl⟩ d_mo_homeOf_123 rfl (vp_nar_int _) h_14
        · have h_15 := h_12.2.2 c_13
          refine ev_iconst (v := 1) (pc := 118) d_mo_homeOf_118 kc_i_1 ?_
          refine ev_goto (pc := 119) (tgt := 123) d_mo_homeOf_119 (by decide) ?_
          exact ev_iret (pc := 123) ⟨Nat.le_of_ble_eq_true rfl, Nat.le_of_ble_eq_true rfl⟩ d_mo_homeOf_123 rfl (vp_nar_int _) h_15
      | k + 8, hk, _ => exact absurd hk (by omega)
  · have h_3 := hh.2 c_1
    refine ev_bipush (v := (-5)) (pc := 8) d_mo_homeOf_8 kc_b_m5 ?_
    exact ev_iret (pc := 10) ⟨Nat.le_of_ble_eq_true rfl, Nat.le_of_ble_eq_true rfl⟩ d_mo_homeOf_10 rfl (vp_nar_int _) h_3
theorem b_mo_stock_0 {E : gp_E} {S : gp_S} {X : gp_H} {Q : Option Value → gp_H → Prop} {x1 : Int32} {x2 : Int32} (hX : Lay S X)  (hh : (((iw x1 0 4) = true → (((iw x2 (-9999) 9999) = false → Q (some (.int (-2))) X) ∧ ((iw x2 (-9999) 9999) = true → (vp_in x1 5 ∧ (((iw ((gI X 81 (Int32.toNatClampNeg x1)) + x2) 0 9999) = true → Q (some (.int (gI (gp_sI X 81 (Int32.toNatClampNeg x1) ((gI X 81 (Int32.toNatClampNeg x1)) + x2)) 81 (Int32.toNatClampNeg x1)))) (gp_sI X 81 (Int32.toNatClampNeg x1) ((gI X 81 (Int32.toNatClampNeg x1)) + x2))) ∧ ((iw ((gI X 81 (Int32.toNatClampNeg x1)) + x2) 0 9999) = false → Q (some (.int (-2))) X)))))) ∧ ((iw x1 0 4) = false → Q (some (.int (-1))) X))) : Ev E m_mo_stock 0 [(0, .ref 55), (1, .int x1), (2, .int x2)] [] X (0, 0) Q := by
  refine ev_iload_n (x := x1) (pc := 0) d_mo_stock_0 rfl ?_
  refine ev_iconst (v := 0) (pc := 1) d_mo_stock_1 kc_i_0 ?_
  refine ev_iconst (v := 4) (pc := 2) d_mo_stock_2 kc_i_4 ?_
  refine ev_callS (z := m_mo_in) (as := [.int x1, .int 0, .int 4]) (rest := []) (pc := 3) d_mo_stock_3 l_mo_196 i_mo_in o_mo_in rfl rfl (Nat.le_of_ble_eq_true rfl) rfl (Nat.le_of_ble_eq_true rfl) ⟨Nat.le_of_ble_eq_true rfl, Nat.le_of_ble_eq_true rfl⟩ (s_mo_in hX x1 0 4) (fun r X1 hq => ?_)
  obtain ⟨rfl, rfl⟩ := hq
  show Ev E m_mo_stock 6 [(0, .ref 55), (1, .int x1), (2, .int x2)] [.int (bz (iw x1 0 4))] X (0, 0) Q
  refine ev_ifz_ne (pc := 6) (tgt := 11) d_mo_stock_6 (by decide) (fun c_1 => ?_) (fun c_1 => ?_)
  · have h_2 := hh.1 c_1
    refine ev_iload_n (x := x2) (pc := 11) d_mo_stock_11 rfl ?_
    refine ev_sipush (v := (-9999)) (pc := 12) d_mo_stock_12 kc_s_m9999 ?_
    refine ev_sipush (v := 9999) (pc := 15) d_mo_stock_15 kc_s_9999 ?_
    refine ev_callS (z := m_mo_in) (as := [.int x2, .int (-9999), .int 9999]) (rest := []) (pc := 18) d_mo_stock_18 l_mo_196 i_mo_in o_mo_in rfl rfl (Nat.le_of_ble_eq_true rfl) rfl (Nat.le_of_ble_eq_true rfl) ⟨Nat.le_of_ble_eq_true rfl, Nat.le_of_ble_eq_true rfl⟩ (s_mo_in hX x2 (-9999) 9999) (fun r X1 hq => ?_)
    obtain ⟨rfl, rfl⟩ := hq
    show Ev E m_mo_stock 21 [(0, .ref 55), (1, .int x1), (2, .int x2)] [.int (bz (iw x2 (-9999) 9999))] X (0, 0) Q
    refine ev_ifz_eq (pc := 21) (tgt := 42) d_mo_stock_21 (by decide) (fun c_4 => ?_) (fun c_4 => ?_)
    · have h_5 := h_2.1 c_4
      refine ev_bipush (v := (-2)) (pc := 42) d_mo_stock_42 kc_b_m2 ?_
      exact ev_iret (pc := 44) ⟨Nat.le_of_ble_eq_true rfl, Nat.le_of_ble_eq_true rfl⟩ d_mo_stock_44 rfl (vp_nar_int _) h_5
    · have h_6 := h_2.2 c_4
      refine ev_aload_n (x := 55) (pc := 24) d_mo_stock_24 rfl ?_
      refine ev_getR (pc := 25) d_mo_stock_25 f_mo_90 (ly_at hX 55 rfl) gg_12 rfl (ly_rf hX 55 32 rfl) ?_
      refine ev_iload_n (x := x1) (pc := 28) d_mo_stock_28 rfl ?_
      refine ev_ialdJ (v := (gI X 81 (Int32.toNatClampNeg x1))) (pc := 29) d_mo_stock_29 (ly_at hX 81 rfl) h_6.1 rfl ?_
      refine ev_iload_n (x := x2) (pc := 30) d_mo_stock_30 rfl ?_
      refine ev_iadd (pc := 31) d_mo_stock_31 ?_
      refine ev_iconst (v := 0) (pc := 32) d_mo_stock_32 kc_i_0 ?_
      refine ev_sipush (v := 9999) (pc := 33) d_mo_stock_33 kc_s_9999 ?_
      refine ev_callS (z := m_mo_in) (as := [.int ((gI X 81 (Int32.toNatClampNeg x1)) + x2), .int 0, .int 9999]) (rest := []) (pc := 36) d_mo_stock_36 l_mo_196 i_mo_in o_mo_in rfl rfl (Nat.le_of_ble_eq_true rfl) rfl (Nat.le_of_ble_eq_true rfl) ⟨Nat.le_of_ble_eq_true rfl, Nat.le_of_ble_eq_true rfl⟩ (s_mo_in hX ((gI X 81 (Int32.toNatClampNeg x1)) + x2) 0 9999) (fun r X1 hq => ?_)
      obtain ⟨rfl, rfl⟩ := hq
      show Ev E m_mo_stock 39 [(0, .ref 55), (1, .int x1), (2, .int x2)] [.int (bz (iw ((gI X 81 (Int32.toNatClampNeg x1)) + x2) 0 9999))] X (0, 0) Q
      refine ev_ifz_ne (pc := 39) (tgt := 45) d_mo_stock_39 (by decide) (fun c_7 => ?_) (fun c_7 => ?_)
      · have h_8 := h_6.2.1 c_7
        refine ev_aload_n (x := 55) (pc := 45) d_mo_stock_45 rfl ?_
        refine ev_getR (pc := 46) d_mo_stock_46 f_mo_90 (ly_at hX 55 rfl) gg_12 rfl (ly_rf hX 55 32 rfl) ?_
        refine ev_iload_n (x := x1) (pc := 49) d_mo_stock_49 rfl ?_
        refine ev_dup2 (pc := 50) d_mo_stock_50 rfl rfl ?_
        refine ev_ialdJ (v := (gI X 81 (Int32.toNatClampNeg x1))) (pc := 51) d_mo_stock_51 (ly_at hX 81 rfl) h_6.1 rfl ?_
        refine ev_iload_n (x := x2) (pc := 52) d_mo_stock_52 rfl ?_
        refine ev_iadd (pc := 53) d_mo_stock_53 ?_
        refine ev_iast (pc := 54) d_mo_stock_54 (ly_at hX 81 rfl) h_6.1 ?_
        refine ev_aload_n (x := 55) (pc := 55) d_mo_stock_55 rfl ?_
        refine ev_getR (pc := 56) d_mo_stock_56 f_mo_90 (ly_at (ly_sI hX) 55 rfl) gg_12 rfl (ly_rf (ly_sI hX) 55 32 rfl) ?_
        refine ev_iload_n (x := x1) (pc := 59) d_mo_stock_59 rfl ?_
        refine ev_ialdJ (v := (gI (gp_sI X 81 (Int32.toNatClampNeg x1) ((gI X 81 (Int32.toNatClampNeg x1)) + x2)) 81 (Int32.toNatClampNeg x1))) (pc := 60) d_mo_stock_60 (ly_at (ly_sI hX) 81 rfl) h_6.1 rfl ?_
        exact ev_iret (pc := 61) ⟨Nat.le_of_ble_eq_true rfl, Nat.le_of_ble_eq_true rfl⟩ d_mo_stock_61 rfl (vp_nar_int _) h_8
      · have h_9 := h_6.2.2 c_7
        refine ev_bipush (v := (-2)) (pc := 42) d_mo_stock_42 kc_b_m2 ?_
        exact ev_iret (pc := 44) ⟨Nat.le_of_ble_eq_true rfl, Nat.le_of_ble_eq_true rfl⟩ d_mo_stock_44 rfl (vp_nar_int _) h_9
  · have h_3 := hh.2 c_1
    refine ev_iconst (v := (-1)) (pc := 9) d_mo_stock_9 kc_i_m1 ?_
    exact ev_iret (pc := 10) ⟨Nat.le_of_ble_eq_true rfl, Nat.le_of_ble_eq_true rfl⟩ d_mo_stock_10 rfl (vp_nar_int _) h_3
theorem b_mo_order_0 {E : gp_E} {S : gp_S} {X : gp_H} {Q : Option Value → gp_H → Prop} {x1 : Int32} {x2 : Int32} {x3 : Int32} (hX : Lay S X)  (hh : (((iw x1 0 4) = true → (((iw x2 1 999) = false → Q (some (.int (-2))) X) ∧ ((iw x2 1 999) = true → (((iw x3 ((gI X 55 44) + 1) 200) = true → ((¬ (gI X 55 33) = 30 → (vp_in (gI X 55 33) 30 ∧ Q (some (.int (((gI X 55 33) + 1) - 1))) (gp_sI (gp_sI (gp_sI (gp_sI X 82 (Int32.toNatClampNeg (gI X 55 33)) x1) 83 (Int32.toNatClampNeg (gI X 55 33)) x2) 84 (Int32.toNatClampNeg (gI X 55 33)) x3) 55 33 ((gI X 55 33) + 1)))) ∧ ((gI X 55 33) = 30 → Q (some (.int (-4))) X))) ∧ ((iw x3 ((gI X 55 44) + 1) 200) = false → Q (some (.int (-2))) X))))) ∧ ((iw x1 0 4) = false → Q (some (.int (-1))) X))) : Ev E m_mo_order 0 [(0, .ref 55), (1, .int x1), (2, .int x2), (3, .int x3)] [] X (0, 0) Q := by
  refine ev_iload_n (x := x1) (pc := 0) d_mo_order_0 rfl ?_
  refine ev_iconst (v := 0) (pc := 1) d_mo_order_1 kc_i_0 ?_
  refine ev_iconst (v := 4) (pc := 2) d_mo_order_2 kc_i_4 ?_
  refine ev_callS (z := m_mo_in) (as := [.int x1, .int 0, .int 4]) (rest := []) (pc := 3) d_mo_order_3 l_mo_196 i_mo_in o_mo_in rfl rfl (Nat.le_of_ble_eq_true rfl) rfl (Nat.le_of_ble_eq_true rfl) ⟨Nat.le_of_ble_eq_true rfl, Nat.le_of_ble_eq_true rfl⟩ (s_mo_in hX x1 0 4) (fun r X1 hq => ?_)
  obtain ⟨rfl, rfl⟩ := hq
  show Ev E m_mo_order 6 [(0, .ref 55), (1, .int x1), (2, .int x2), (3, .int x3)] [.int (bz (iw x1 0 4))] X (0, 0) Q
  refine ev_ifz_ne (pc := 6) (tgt := 11) d_mo_order_6 (by decide) (fun c_1 => ?_) (fun c_1 => ?_)
  · have h_2 := hh.1 c_1
    refine ev_iload_n (x := x2) (pc := 11) d_mo_order_11 rfl ?_
    refine ev_iconst (v := 1) (pc := 12) d_mo_order_12 kc_i_1 ?_
    refine ev_sipush (v := 999) (pc := 13) d_mo_order_13 kc_s_999 ?_
    refine ev_callS (z := m_mo_in) (as := [.int x2, .int 1, .int 999]) (rest := []) (pc := 16) d_mo_order_16 l_mo_196 i_mo_in o_mo_in rfl rfl (Nat.le_of_ble_eq_true rfl) rfl (Nat.le_of_ble_eq_true rfl) ⟨Nat.le_of_ble_eq_true rfl, Nat.le_of_ble_eq_true rfl⟩ (s_mo_in hX x2 1 999) (fun r X1 hq => ?_)
    obtain ⟨rfl, rfl⟩ := hq
    show Ev E m_mo_order 19 [(0, .ref 55), (1, .int x1), (2, .int x2), (3, .int x3)] [.int (bz (iw x2 1 999))] X (0, 0) Q
    refine ev_ifz_eq (pc := 19) (tgt := 38) d_mo_order_19 (by decide) (fun c_4 => ?_) (fun c_4 => ?_)
    · have h_5 := h_2.1 c_4
      refine ev_bipush (v := (-2)) (pc := 38) d_mo_order_38 kc_b_m2 ?_
      exact ev_iret (pc := 40) ⟨Nat.le_of_ble_eq_true rfl, Nat.le_of_ble_eq_true rfl⟩ d_mo_order_40 rfl (vp_nar_int _) h_5
    · have h_6 := h_2.2 c_4
      refine ev_iload_n (x := x3) (pc := 22) d_mo_order_22 rfl ?_
      refine ev_aload_n (x := 55) (pc := 23) d_mo_order_23 rfl ?_
      refine ev_getJ (v := (gI X 55 44)) (pc := 24) d_mo_order_24 f_mo_274 (ly_at hX 55 rfl) gg_12 rfl rfl ?_
      refine ev_iconst (v := 1) (pc := 27) d_mo_order_27 kc_i_1 ?_
      refine ev_iadd (pc := 28) d_mo_order_28 ?_
      refine ev_sipush (v := 200) (pc := 29) d_mo_order_29 kc_s_200 ?_
      refine ev_callS (z := m_mo_in) (as := [.int x3, .int ((gI X 55 44) + 1), .int 200]) (rest := []) (pc := 32) d_mo_order_32 l_mo_196 i_mo_in o_mo_in rfl rfl (Nat.le_of_ble_eq_true rfl) rfl (Nat.le_of_ble_eq_true rfl) ⟨Nat.le_of_ble_eq_true rfl, Nat.le_of_ble_eq_true rfl⟩ (s_mo_in hX x3 ((gI X 55 44) + 1) 200) (fun r X1 hq => ?_)
      obtain ⟨rfl, rfl⟩ := hq
      show Ev E m_mo_order 35 [(0, .ref 55), (1, .int x1), (2, .int x2), (3, .int x3)] [.int (bz (iw x3 ((gI X 55 44) + 1) 200))] X (0, 0) Q
      refine ev_ifz_ne (pc := 35) (tgt := 41) d_mo_order_35 (by decide) (fun c_7 => ?_) (fun c_7 => ?_)
      · have h_8 := h_6.1 c_7
        refine ev_aload_n (x := 55) (pc := 41) d_mo_order_41 rfl ?_
        refine ev_getJ (v := (gI X 55 33)) (pc := 42) d_mo_order_42 f_mo_277 (ly_at hX 55 rfl) gg_12 rfl rfl ?_
        refine ev_bipush (v := 30) (pc := 45) d_mo_order_45 kc_b_30 ?_
        refine ev_icmp_ne (pc := 47) (tgt := 53) d_mo_order_47 (by decide) (fun c_10 => ?_) (fun c_10 => ?_)
        · have h_11 := h_8.1 c_10
          refine ev_aload_n (x := 55) (pc := 53) d_mo_order_53 rfl ?_
          refine ev_getR (pc := 54) d_mo_order_54 f_mo_93 (ly_at hX 55 rfl) gg_12 rfl (ly_rf hX 55 34 rfl) ?_
          refine ev_aload_n (x := 55) (pc := 57) d_mo_order_57 rfl ?_
          refine ev_getJ (v := (gI X 55 33)) (pc := 58) d_mo_order_58 f_mo_277 (ly_at hX 55 rfl) gg_12 rfl rfl ?_
          refine ev_iload_n (x := x1) (pc := 61) d_mo_order_61 rfl ?_
          refine ev_iast (pc := 62) d_mo_order_62 (ly_at hX 82 rfl) h_11.1 ?_
          refine ev_aload_n (x := 55) (pc := 63) d_mo_order_63 rfl ?_
          refine ev_getR (pc := 64) d_mo_order_64 f_mo_96 (ly_at (ly_sI hX) 55 rfl) gg_12 rfl (ly_rf (ly_sI hX) 55 35 rfl) ?_
          refine ev_aload_n (x := 55) (pc := 67) d_mo_order_67 rfl ?_
          refine ev_getJ (v := (gI X 55 33)) (pc := 68) d_mo_order_68 f_mo_277 (ly_at (ly_sI hX) 55 rfl) gg_12 rfl rfl ?_
          refine ev_iload_n (x := x2) (pc := 71) d_mo_order_71 rfl ?_
          refine ev_iast (pc := 72) d_mo_order_72 (ly_at (ly_sI hX) 83 rfl) h_11.1 ?_
          refine ev_aload_n (x := 55) (pc := 73) d_mo_order_73 rfl ?_
          refine ev_getR (pc := 74) d_mo_order_74 f_mo_99 (ly_at (ly_sI (ly_sI hX)) 55 rfl) gg_12 rfl (ly_rf (ly_sI (ly_sI hX)) 55 36 rfl) ?_
          refine ev_aload_n (x := 55) (pc := 77) d_mo_order_77 rfl ?_
          refine ev_getJ (v := (gI X 55 33)) (pc := 78) d_mo_order_78 f_mo_277 (ly_at (ly_sI (ly_sI hX)) 55 rfl) gg_12 rfl rfl ?_
          refine ev_iload_n (x := x3) (pc := 81) d_mo_order_81 rfl ?_
          refine ev_iast (pc := 82) d_mo_order_82 (ly_at (ly_sI (ly_sI hX)) 84 rfl) h_11.1 ?_
          refine ev_aload_n (x := 55) (pc := 83) d_mo_order_83 rfl ?_
          refine ev_dup (pc := 84) d_mo_order_84 rfl ?_
          refine ev_getJ (v := (gI X 55 33)) (pc := 85) d_mo_order_85 f_mo_277 (ly_at (ly_sI (ly_sI (ly_sI hX))) 55 rfl) gg_12 rfl rfl ?_
          refine ev_iconst (v := 1) (pc := 88) d_mo_order_88 kc_i_1 ?_
          refine ev_iadd (pc := 89) d_mo_order_89 ?_
          refine ev_putI (pc := 90) d_mo_order_90 f_mo_277 (ly_at (ly_sI (ly_sI (ly_sI hX))) 55 rfl) gg_12 rfl (Or.inl rfl) (vp_nar_int _) rfl ?_
          refine ev_aload_n (x := 55) (pc := 93) d_mo_order_93 rfl ?_
          refine ev_getJ (v := ((gI X 55 33) + 1)) (pc := 94) d_mo_order_94 f_mo_277 (ly_at (ly_sI (ly_sI (ly_sI (ly_sI hX)))) 55 rfl) gg_12 rfl rfl ?_
          refine ev_iconst (v := 1) (pc := 97) d_mo_order_97 kc_i_1 ?_
          refine ev_isub (pc := 98) d_mo_order_98 ?_
          exact ev_iret (pc := 99) ⟨Nat.le_of_ble_eq_true rfl, Nat.le_of_ble_eq_true rfl⟩ d_mo_order_99 rfl (vp_nar_int _) h_11.2
        · have h_12 := h_8.2 c_10
          refine ev_bipush (v := (-4)) (pc := 50) d_mo_order_50 kc_b_m4 ?_
          exact ev_iret (pc := 52) ⟨Nat.le_of_ble_eq_true rfl, Nat.le_of_ble_eq_true rfl⟩ d_mo_order_52 rfl (vp_nar_int _) h_12
      · have h_9 := h_6.2 c_7
        refine ev_bipush (v := (-2)) (pc := 38) d_mo_order_38 kc_b_m2 ?_
        exact ev_iret (pc := 40) ⟨Nat.le_of_ble_eq_true rfl, Nat.le_of_ble_eq_true rfl⟩ d_mo_order_40 rfl (vp_nar_int _) h_9
  · have h_3 := hh.2 c_1
    refine ev_iconst (v := (-1)) (pc := 9) d_mo_order_9 kc_i_m1 ?_
    exact ev_iret (pc := 10) ⟨Nat.le_of_ble_eq_true rfl, Nat.le_of_ble_eq_true rfl⟩ d_mo_order_10 rfl (vp_nar_int _) h_3
theorem b_mo_sector_0 {E : gp_E} {S : gp_S} {X : gp_H} {Q : Option Value → gp_H → Prop} {x1 : Int32} (hX : Lay S X)  (hh : ((x1 ≤ 0 → Q (some (.int (-2))) X) ∧ (¬ x1 ≤ 0 → ((x1 ≤ (((1 : Int32) <<< ((gI X 55 0) &&& 31)) - 1) → Ev E m_mo_sector 17 [(0, .ref 55), (1, .int x1), (2, .int 0)] [] X (0, 0) Q) ∧ (¬ x1 ≤ (((1 : Int32) <<< ((gI X 55 0) &&& 31)) - 1) → Q (some (.int (-2))) X))))) : Ev E m_mo_sector 0 [(0, .ref 55), (1, .int x1)] [] X (0, 0) Q := by
  refine ev_iload_n (x := x1) (pc := 0) d_mo_sector_0 rfl ?_
  refine ev_if_le (pc := 1) (tgt := 12) d_mo_sector_1 (by decide) (fun c_1 => ?_) (fun c_1 => ?_)
  · have h_2 := hh.1 c_1
    refine ev_bipush (v := (-2)) (pc := 12) d_mo_sector_12 kc_b_m2 ?_
    exact ev_iret (pc := 14) ⟨Nat.le_of_ble_eq_true rfl, Nat.le_of_ble_eq_true rfl⟩ d_mo_sector_14 rfl (vp_nar_int _) h_2
  · have h_3 := hh.2 c_1
    refine ev_iload_n (x := x1) (pc := 4) d_mo_sector_4 rfl ?_
    refine ev_aload_n (x := 55) (pc := 5) d_mo_sector_5 rfl ?_
    refine ev_callV (z := m_mo_all) (as := []) (rest := [.int x1]) (pc := 6) d_mo_sector_6 (ly_at hX 55 rfl) lt13_12 rfl l_mo_226 i_mo_all v_mo_all o_mo_all rfl rfl (Nat.le_of_ble_eq_true rfl) rfl (Nat.le_of_ble_eq_true rfl) ⟨Nat.le_of_ble_eq_true rfl, Nat.le_of_ble_eq_true rfl⟩ (s_mo_all hX  ) (fun r X1 hq => ?_)
    obtain ⟨rfl, rfl⟩ := hq
    show Ev E m_mo_sector 9 [(0, .ref 55), (1, .int x1)] [.int (((1 : Int32) <<< ((gI X 55 0) &&& 31)) - 1), .int x1] X (0, 0) Q
    refine ev_icmp_le (pc := 9) (tgt := 15) d_mo_sector_9 (by decide) (fun c_4 => ?_) (fun c_4 => ?_)
    · have h_5 := h_3.1 c_4
      refine ev_iconst (v := 0) (pc := 15) d_mo_sector_15 kc_i_0 ?_
      refine ev_istore_n (L2 := [(0, .ref 55), (1, .int x1), (2, .int 0)]) (pc := 16) d_mo_sector_16 rfl (Nat.le_of_ble_eq_true rfl) rfl ?_
      exact h_5
    · have h_6 := h_3.2 c_4
      refine ev_bipush (v := (-2)) (pc := 12) d_mo_sector_12 kc_b_m2 ?_
      exact ev_iret (pc := 14) ⟨Nat.le_of_ble_eq_true rfl, Nat.le_of_ble_eq_true rfl⟩ d_mo_sector_14 rfl (vp_nar_int _) h_6
theorem b_mo_sector_17 {E : gp_E} {S : gp_S} {X : gp_H} {Q : Option Value → gp_H → Prop} {x1 : Int32} {x2 : Int32} (hX : Lay S X)  (hh : (((gI X 55 37) ≤ x2 → ((¬ (gI X 55 37) = 7 → (vp_in (gI X 55 37) 7 ∧ Q (some (.int (((gI X 55 37) + 1) - 1))) (gp_sI (gp_sI X 85 (Int32.toNatClampNeg (gI X 55 37)) x1) 55 37 ((gI X 55 37) + 1)))) ∧ ((gI X 55 37) = 7 → Q (some (.int (-4))) X))) ∧ (¬ (gI X 55 37) ≤ x2 → (vp_in x2 7 ∧ ((((gI X 85 (Int32.toNatClampNeg x2)) &&& x1) = 0 → Ev E m_mo_sector 17 [(0, .ref 55), (1, .int x1), (2, .int (x2 + 1))] [] X (0, 0) Q) ∧ (¬ ((gI X 85 (Int32.toNatClampNeg x2)) &&& x1) = 0 → Q (some (.int (-3))) X)))))) : Ev E m_mo_sector 17 [(0, .ref 55), (1, .int x1), (2, .int x2)] [] X (0, 0) Q := by
  refine ev_iload_n (x := x2) (pc := 17) d_mo_sector_17 rfl ?_
  refine ev_aload_n (x := 55) (pc := 18) d_mo_sector_18 rfl ?_
  refine ev_getJ (v := (gI X 55 37)) (pc := 19) d_mo_sector_19 f_mo_206 (ly_at hX 55 rfl) gg_12 rfl rfl ?_
  refine ev_icmp_ge (pc := 22) (tgt := 45) d_mo_sector_22 (by decide) (fun c_1 => ?_) (fun c_1 => ?_)
  · have h_2 := hh.1 c_1
    refine ev_aload_n (x := 55) (pc := 45) d_mo_sector_45 rfl ?_
    refine ev_getJ (v := (gI X 55 37)) (pc := 46) d_mo_sector_46 f_mo_206 (ly_at hX 55 rfl) gg_12 rfl rfl ?_
    refine ev_bipush (v := 7) (pc := 49) d_mo_sector_49 kc_b_7 ?_
    refine ev_icmp_ne (pc := 51) (tgt := 57) d_mo_sector_51 (by decide) (fun c_4 => ?_) (fun c_4 => ?_)
    · have h_5 := h_2.1 c_4
      refine ev_aload_n (x := 55) (pc := 57) d_mo_sector_57 rfl ?_
      refine ev_getR (pc := 58) d_mo_sector_58 f_mo_102 (ly_at hX 55 rfl) gg_12 rfl (ly_rf hX 55 38 rfl) ?_
      refine ev_aload_n (x := 55) (pc := 61) d_mo_sector_61 rfl ?_
      refine ev_getJ (v := (gI X 55 37)) (pc := 62) d_mo_sector_62 f_mo_206 (ly_at hX 55 rfl) gg_12 rfl rfl ?_
      refine ev_iload_n (x := x1) (pc := 65) d_mo_sector_65 rfl ?_
      refine ev_iast (pc := 66) d_mo_sector_66 (ly_at hX 85 rfl) h_5.1 ?_
      refine ev_aload_n (x := 55) (pc := 67) d_mo_sector_67 rfl ?_
      refine ev_dup (pc := 68) d_mo_sector_68 rfl ?_
      refine ev_getJ (v := (gI X 55 37)) (pc := 69) d_mo_sector_69 f_mo_206 (ly_at (ly_sI hX) 55 rfl) gg_12 rfl rfl ?_
      refine ev_iconst (v := 1) (pc := 72) d_mo_sector_72 kc_i_1 ?_
      refine ev_iadd (pc := 73) d_mo_sector_73 ?_
      refine ev_putI (pc := 74) d_mo_sector_74 f_mo_206 (ly_at (ly_sI hX) 55 rfl) gg_12 rfl (Or.inl rfl) (vp_nar_int _) rfl ?_
      refine ev_aload_n (x := 55) (pc := 77) d_mo_sector_77 rfl ?_
      refine ev_getJ (v := ((gI X 55 37) + 1)) (pc := 78) d_mo_sector_78 f_mo_206 (ly_at (ly_sI (ly_sI hX)) 55 rfl) gg_12 rfl rfl ?_
      refine ev_iconst (v := 1) (pc := 81) d_mo_sector_81 kc_i_1 ?_
      refine ev_isub (pc := 82) d_mo_sector_82 ?_
      exact ev_iret (pc := 83) ⟨Nat.le_of_ble_eq_true rfl, Nat.le_of_ble_eq_true rfl⟩ d_mo_sector_83 rfl (vp_nar_int _) h_5.2
    · have h_6 := h_2.2 c_4
      refine ev_bipush (v := (-4)) (pc := 54) d_mo_sector_54 kc_b_m4 ?_
      exact ev_iret (pc := 56) ⟨Nat.le_of_ble_eq_true rfl, Nat.le_of_ble_eq_true rfl⟩ d_mo_sector_56 rfl (vp_nar_int _) h_6
  · have h_3 := hh.2 c_1
    refine ev_aload_n (x := 55) (pc := 25) d_mo_sector_25 rfl ?_
    refine ev_getR (pc := 26) d_mo_sector_26 f_mo_102 (ly_at hX 55 rfl) gg_12 rfl (ly_rf hX 55 38 rfl) ?_
    refine ev_iload_n (x := x2) (pc := 29) d_mo_sector_29 rfl ?_
    refine ev_ialdJ (v := (gI X 85 (Int32.toNatClampNeg x2))) (pc := 30) d_mo_sector_30 (ly_at hX 85 rfl) h_3.1 rfl ?_
    refine ev_iload_n (x := x1) (pc := 31) d_mo_sector_31 rfl ?_
    refine ev_iand (pc := 32) d_mo_sector_32 ?_
    refine ev_if_eq (pc := 33) (tgt := 39) d_mo_sector_33 (by decide) (fun c_7 => ?_) (fun c_7 => ?_)
    · have h_8 := h_3.2.1 c_7
      refine ev_iinc (v := (x2 + 1)) (L2 := [(0, .ref 55), (1, .int x1), (2, .int (x2 + 1))]) (pc := 39) d_mo_sector_39 rfl (by rw [kc_i_1]) rfl (Nat.le_of_ble_eq_true rfl) rfl ?_
      refine ev_goto (pc := 42) (tgt := 17) d_mo_sector_42 (by decide) ?_
      exact h_8
    · have h_9 := h_3.2.2 c_7
      refine ev_bipush (v := (-3)) (pc := 36) d_mo_sector_36 kc_b_m3 ?_
      exact ev_iret (pc := 38) ⟨Nat.le_of_ble_eq_true rfl, Nat.le_of_ble_eq_true rfl⟩ d_mo_sector_38 rfl (vp_nar_int _) h_9
theorem b_mo_why_0 {E : gp_E} {S : gp_S} {X : gp_H} {Q : Option Value → gp_H → Prop} {x1 : Int32} (hX : Lay S X)  (hh : (((iw x1 0 ((gI X 55 37) - 1)) = false → Q (some (.int (-1))) X) ∧ ((iw x1 0 ((gI X 55 37) - 1)) = true → (∃ Qz_4, Ev E m_mo_whyNot 0 [(0, .ref 55), (1, .int x1)] [] X (0, 0) Qz_4 ∧ ∀ r X_7, Qz_4 r X_7 → ∃ v_12 : Int32, r = some (.int v_12) ∧ Lay S X_7 ∧ Q (some (.int v_12)) X_7)))) : Ev E m_mo_why 0 [(0, .ref 55), (1, .int x1)] [] X (0, 0) Q := by
  refine ev_aload_n (x := 55) (pc := 0) d_mo_why_0 rfl ?_
  refine ev_iload_n (x := x1) (pc := 1) d_mo_why_1 rfl ?_
  refine ev_callV (z := m_mo_isSector) (as := [.int x1]) (rest := []) (pc := 2) d_mo_why_2 (ly_at hX 55 rfl) lt13_12 rfl l_mo_267 i_mo_isSector v_mo_isSector o_mo_isSector rfl rfl (Nat.le_of_ble_eq_true rfl) rfl (Nat.le_of_ble_eq_true rfl) ⟨Nat.le_of_ble_eq_true rfl, Nat.le_of_ble_eq_true rfl⟩ (s_mo_isSector hX x1 ) (fun r X1 hq => ?_)
  obtain ⟨rfl, rfl⟩ := hq
  show Ev E m_mo_why 5 [(0, .ref 55), (1, .int x1)] [.int (bz (iw x1 0 ((gI X 55 37) - 1)))] X (0, 0) Q
  refine ev_ifz_eq (pc := 5) (tgt := 16) d_mo_why_5 (by decide) (fun c_1 => ?_) (fun c_1 => ?_)
  · have h_2 := hh.1 c_1
    refine ev_iconst (v := (-1)) (pc := 16) d_mo_why_16 kc_i_m1 ?_
    exact ev_iret (pc := 17) ⟨Nat.le_of_ble_eq_true rfl, Nat.le_of_ble_eq_true rfl⟩ d_mo_why_17 rfl (vp_nar_int _) h_2
  · have h_3 := hh.2 c_1
    refine ev_aload_n (x := 55) (pc := 8) d_mo_why_8 rfl ?_
    refine ev_iload_n (x := x1) (pc := 9) d_mo_why_9 rfl ?_
    obtain ⟨Qz_4, hc_5, hk_6⟩ := h_3
    refine ev_callV (z := m_mo_whyNot) (as := [.int x1]) (rest := []) (pc := 10) d_mo_why_10 (ly_at hX 55 rfl) lt13_12 rfl l_mo_295 i_mo_whyNot v_mo_whyNot o_mo_whyNot rfl rfl (Nat.le_of_ble_eq_true rfl) rfl (Nat.le_of_ble_eq_true rfl) ⟨Nat.le_of_ble_eq_true rfl, Nat.le_of_ble_eq_true rfl⟩ hc_5 (fun r_8 X_7 hq_9 => ?_)
    obtain ⟨v_12, rfl, hX_11, h_10⟩ := hk_6 _ _ hq_9
    show Ev E m_mo_why 13 [(0, .ref 55), (1, .int x1)] [.int v_12] X_7 (0, 0) Q
    refine ev_goto (pc := 13) (tgt := 17) d_mo_why_13 (by decide) ?_
    exact ev_iret (pc := 17) ⟨Nat.le_of_ble_eq_true rfl, Nat.le_of_ble_eq_true rfl⟩ d_mo_why_17 rfl (vp_nar_int _) h_10
theorem b_mo_whyNot_0 {E : gp_E} {S : gp_S} {X : gp_H} {Q : Option Value → gp_H → Prop} {x1 : Int32} (hX : Lay S X)  (hh : (vp_in x1 7 ∧ (((gI X 86 (Int32.toNatClampNeg x1)) = 0 → (∃ Qz_4, Ev E m_mo_done 0 [(0, .ref 55)] [] X (0, 0) Qz_4 ∧ ∀ r X_7, Qz_4 r X_7 → ∃ v_12 : Int32, r = some (.int v_12) ∧ Lay S X_7 ∧ (∃ Qz_13, Ev E m_mo_hinders 0 [(0, .ref 55), (1, .int (v_12 ||| (gI X_7 85 (Int32.toNatClampNeg x1)))), (2, .int (gI X_7 85 (Int32.toNatClampNeg x1)))] [] X_7 (0, 0) Qz_13 ∧ ∀ r X_16, Qz_13 r X_16 → ∃ v_21 : Int32, r = some (.int v_21) ∧ Lay S X_16 ∧ ((v_21 = 0 → (∃ Qz_25, Ev E m_mo_isBarred 0 [(0, .ref 55), (1, .int x1)] [] X_16 (0, 0) Qz_25 ∧ ∀ r X_28, Qz_25 r X_28 → ∃ v_33 : Int32, r = some (.int v_33) ∧ Lay S X_28 ∧ ((v_33 = 0 → Q (some (.int 0)) X_28) ∧ (¬ v_33 = 0 → Q (some (.int 5)) X_28)))) ∧ (¬ v_21 = 0 → Q (some (.int v_21)) X_16))))) ∧ (¬ (gI X 86 (Int32.toNatClampNeg x1)) = 0 → Q (some (.int 1)) X)))) : Ev E m_mo_whyNot 0 [(0, .ref 55), (1, .int x1)] [] X (0, 0) Q := by
  refine ev_aload_n (x := 55) (pc := 0) d_mo_whyNot_0 rfl ?_
  refine ev_getR (pc := 1) d_mo_whyNot_1 f_mo_105 (ly_at hX 55 rfl) gg_12 rfl (ly_rf hX 55 39 rfl) ?_
  refine ev_iload_n (x := x1) (pc := 4) d_mo_whyNot_4 rfl ?_
  refine ev_zaldJ (v := (gI X 86 (Int32.toNatClampNeg x1))) (pc := 5) d_mo_whyNot_5 (ly_at hX 86 rfl) hh.1 rfl ?_
  refine ev_if_eq (pc := 6) (tgt := 11) d_mo_whyNot_6 (by decide) (fun c_1 => ?_) (fun c_1 => ?_)
  · have h_2 := hh.2.1 c_1
    refine ev_aload_n (x := 55) (pc := 11) d_mo_whyNot_11 rfl ?_
    refine ev_aload_n (x := 55) (pc := 12) d_mo_whyNot_12 rfl ?_
    obtain ⟨Qz_4, hc_5, hk_6⟩ := h_2
    refine ev_callV (z := m_mo_done) (as := []) (rest := [.ref 55]) (pc := 13) d_mo_whyNot_13 (ly_at hX 55 rfl) lt13_12 rfl l_mo_286 i_mo_done v_mo_done o_mo_done rfl rfl (Nat.le_of_ble_eq_true rfl) rfl (Nat.le_of_ble_eq_true rfl) ⟨Nat.le_of_ble_eq_true rfl, Nat.le_of_ble_eq_true rfl⟩ hc_5 (fun r_8 X_7 hq_9 => ?_)
    obtain ⟨v_12, rfl, hX_11, h_10⟩ := hk_6 _ _ hq_9
    show Ev E m_mo_whyNot 16 [(0, .ref 55), (1, .int x1)] [.int v_12, .ref 55] X_7 (0, 0) Q
    refine ev_aload_n (x := 55) (pc := 16) d_mo_whyNot_16 rfl ?_
    refine ev_getR (pc := 17) d_mo_whyNot_17 f_mo_102 (ly_at hX_11 55 rfl) gg_12 rfl (ly_rf hX_11 55 38 rfl) ?_
    refine ev_iload_n (x := x1) (pc := 20) d_mo_whyNot_20 rfl ?_
    refine ev_ialdJ (v := (gI X_7 85 (Int32.toNatClampNeg x1))) (pc := 21) d_mo_whyNot_21 (ly_at hX_11 85 rfl) hh.1 rfl ?_
    refine ev_ior (pc := 22) d_mo_whyNot_22 ?_
    refine ev_aload_n (x := 55) (pc := 23) d_mo_whyNot_23 rfl ?_
    refine ev_getR (pc := 24) d_mo_whyNot_24 f_mo_102 (ly_at hX_11 55 rfl) gg_12 rfl (ly_rf hX_11 55 38 rfl) ?_
    refine ev_iload_n (x := x1) (pc := 27) d_mo_whyNot_27 rfl ?_
    refine ev_ialdJ (v := (gI X_7 85 (Int32.toNatClampNeg x1))) (pc := 28) d_mo_whyNot_28 (ly_at hX_11 85 rfl) hh.1 rfl ?_
    obtain ⟨Qz_13, hc_14, hk_15⟩ := h_10
    refine ev_callV (z := m_mo_hinders) (as := [.int (v_12 ||| (gI X_7 85 (Int32.toNatClampNeg x1))), .int (gI X_7 85 (Int32.toNatClampNeg x1))]) (rest := []) (pc := 29) d_mo_whyNot_29 (ly_at hX_11 55 rfl) lt13_12 rfl l_mo_289 i_mo_hinders v_mo_hinders o_mo_hinders rfl rfl (Nat.le_of_ble_eq_true rfl) rfl (Nat.le_of_ble_eq_true rfl) ⟨Nat.le_of_ble_eq_true rfl, Nat.le_of_ble_eq_true rfl⟩ hc_14 (fun r_17 X_16 hq_18 => ?_)
    obtain ⟨v_21, rfl, hX_20, h_19⟩ := hk_15 _ _ hq_18
    show Ev E m_mo_whyNot 32 [(0, .ref 55), (1, .int x1)] [.int v_21] X_16 (0, 0) Q
    refine ev_istore_n (L2 := [(0, .ref 55), (1, .int x1), (2, .int v_21)]) (pc := 32) d_mo_whyNot_32 rfl (Nat.le_of_ble_eq_true rfl) rfl ?_
    refine ev_iload_n (x := v_21) (pc := 33) d_mo_whyNot_33 rfl ?_
    refine ev_if_eq (pc := 34) (tgt := 41) d_mo_whyNot_34 (by decide) (fun c_22 => ?_) (fun c_22 => ?_)
    · have h_23 := h_19.1 c_22
      refine ev_aload_n (x := 55) (pc := 41) d_mo_whyNot_41 rfl ?_
      refine ev_iload_n (x := x1) (pc := 42) d_mo_whyNot_42 rfl ?_
      obtain ⟨Qz_25, hc_26, hk_27⟩ := h_23
      refine ev_callV (z := m_mo_isBarred) (as := [.int x1]) (rest := []) (pc := 43) d_mo_whyNot_43 (ly_at hX_20 55 rfl) lt13_12 rfl l_mo_292 i_mo_isBarred v_mo_isBarred o_mo_isBarred rfl rfl (Nat.le_of_ble_eq_true rfl) rfl (Nat.le_of_ble_eq_true rfl) ⟨Nat.le_of_ble_eq_true rfl, Nat.le_of_ble_eq_true rfl⟩ hc_26 (fun r_29 X_28 hq_30 => ?_)
      obtain ⟨v_33, rfl, hX_32, h_31⟩ := hk_27 _ _ hq_30
      show Ev E m_mo_whyNot 46 [(0, .ref 55), (1, .int x1), (2, .int v_21)] [.int v_33] X_28 (0, 0) Q
      refine ev_if_eq (pc := 46) (tgt := 53) d_mo_whyNot_46 (by decide) (fun c_34 => ?_) (fun c_34 => ?_)
      · have h_35 := h_31.1 c_34
        refine ev_iconst (v := 0) (pc := 53) d_mo_whyNot_53 kc_i_0 ?_
        exact ev_iret (pc := 54) ⟨Nat.le_of_ble_eq_true rfl, Nat.le_of_ble_eq_true rfl⟩ d_mo_whyNot_54 rfl (vp_nar_int _) h_35
      · have h_36 := h_31.2 c_34
        refine ev_iconst (v := 5) (pc := 49) d_mo_whyNot_49 kc_i_5 ?_
        refine ev_goto (pc := 50) (tgt := 54) d_mo_whyNot_50 (by decide) ?_
        exact ev_iret (pc := 54) ⟨Nat.le_of_ble_eq_true rfl, Nat.le_of_ble_eq_true rfl⟩ d_mo_whyNot_54 rfl (vp_nar_int _) h_36
    · have h_24 := h_19.2 c_22
      refine ev_iload_n (x := v_21) (pc := 37) d_mo_whyNot_37 rfl ?_
      refine ev_goto (pc := 38) (tgt := 54) d_mo_whyNot_38 (by decide) ?_
      exact ev_iret (pc := 54) ⟨Nat.le_of_ble_eq_true rfl, Nat.le_of_ble_eq_true rfl⟩ d_mo_whyNot_54 rfl (vp_nar_int _) h_24
  · have h_3 := hh.2.2 c_1
    refine ev_iconst (v := 1) (pc := 9) d_mo_whyNot_9 kc_i_1 ?_
    exact ev_iret (pc := 10) ⟨Nat.le_of_ble_eq_true rfl, Nat.le_of_ble_eq_true rfl⟩ d_mo_whyNot_10 rfl (vp_nar_int _) h_3
theorem b_mo_done_0 {E : gp_E} {S : gp_S} {X : gp_H} {Q : Option Value → gp_H → Prop}  (hX : Lay S X)  (hh : Ev E m_mo_done 4 [(0, .ref 55), (1, .int 0), (2, .int 0)] [] X (0, 0) Q) : Ev E m_mo_done 0 [(0, .ref 55)] [] X (0, 0) Q := by
  refine ev_iconst (v := 0) (pc := 0) d_mo_done_0 kc_i_0 ?_
  refine ev_istore_n (L2 := [(0, .ref 55), (1, .int 0)]) (pc := 1) d_mo_done_1 rfl (Nat.le_of_ble_eq_true rfl) rfl ?_
  refine ev_iconst (v := 0) (pc := 2) d_mo_done_2 kc_i_0 ?_
  refine ev_istore_n (L2 := [(0, .ref 55), (1, .int 0), (2, .int 0)]) (pc := 3) d_mo_done_3 rfl (Nat.le_of_ble_eq_true rfl) rfl ?_
  exact hh
theorem b_mo_done_4 {E : gp_E} {S : gp_S} {X : gp_H} {Q : Option Value → gp_H → Prop} {x1 : Int32} {x2 : Int32} (hX : Lay S X)  (hh : (((gI X 55 37) ≤ x2 → Q (some (.int x1)) X) ∧ (¬ (gI X 55 37) ≤ x2 → (vp_in x2 7 ∧ (((gI X 86 (Int32.toNatClampNeg x2)) = 0 → Ev E m_mo_done 4 [(0, .ref 55), (1, .int (x1 ||| 0)), (2, .int (x2 + 1))] [] X (0, 0) Q) ∧ (¬ (gI X 86 (Int32.toNatClampNeg x2)) = 0 → Ev E m_mo_done 4 [(0, .ref 55), (1, .int (x1 ||| (gI X 85 (Int32.toNatClampNeg x2)))), (2, .int (x2 + 1))] [] X (0, 0) Q)))))) : Ev E m_mo_done 4 [(0, .ref 55), (1, .int x1), (2, .int x2)] [] X (0, 0) Q := by
  refine ev_iload_n (x := x2) (pc := 4) d_mo_done_4 rfl ?_
  refine ev_aload_n (x := 55) (pc := 5) d_mo_done_5 rfl ?_
  refine ev_getJ (v := (gI X 55 37)) (pc := 6) d_mo_done_6 f_mo_206 (ly_at hX 55 rfl) gg_12 rfl rfl ?_
  refine ev_icmp_ge (pc := 9) (tgt := 40) d_mo_done_9 (by decide) (fun c_1 => ?_) (fun c_1 => ?_)
  · have h_2 := hh.1 c_1
    refine ev_iload_n (x := x1) (pc := 40) d_mo_done_40 rfl ?_
    exact ev_iret (pc := 41) ⟨Nat.le_of_ble_eq_true rfl, Nat.le_of_ble_eq_true rfl⟩ d_mo_done_41 rfl (vp_nar_int _) h_2
  · have h_3 := hh.2 c_1
    refine ev_iload_n (x := x1) (pc := 12) d_mo_done_12 rfl ?_
    refine ev_aload_n (x := 55) (pc := 13) d_mo_done_13 rfl ?_
    refine ev_getR (pc := 14) d_mo_done_14 f_mo_105 (ly_at hX 55 rfl) gg_12 rfl (ly_rf hX 55 39 rfl) ?_
    refine ev_iload_n (x := x2) (pc := 17) d_mo_done_17 rfl ?_
    refine ev_zaldJ (v := (gI X 86 (Int32.toNatClampNeg x2))) (pc := 18) d_mo_done_18 (ly_at hX 86 rfl) h_3.1 rfl ?_
    refine ev_if_eq (pc := 19) (tgt := 31) d_mo_done_19 (by decide) (fun c_4 => ?_) (fun c_4 => ?_)
    · have h_5 := h_3.2.1 c_4
      refine ev_iconst (v := 0) (pc := 31) d_mo_done_31 kc_i_0 ?_
      refine ev_ior (pc := 32) d_mo_done_32 ?_
      refine ev_istore_n (L2 := [(0, .ref 55), (1, .int (x1 ||| 0)), (2, .int x2)]) (pc := 33) d_mo_done_33 rfl (Nat.le_of_ble_eq_true rfl) rfl ?_
      refine ev_iinc (v := (x2 + 1)) (L2 := [(0, .ref 55), (1, .int (x1 ||| 0)), (2, .int (x2 + 1))]) (pc := 34) d_mo_done_34 rfl (by rw [kc_i_1]) rfl (Nat.le_of_ble_eq_true rfl) rfl ?_
      refine ev_goto (pc := 37) (tgt := 4) d_mo_done_37 (by decide) ?_
      exact h_5
    · have h_6 := h_3.2.2 c_4
      refine ev_aload_n (x := 55) (pc := 22) d_mo_done_22 rfl ?_
      refine ev_getR (pc := 23) d_mo_done_23 f_mo_102 (ly_at hX 55 rfl) gg_12 rfl (ly_rf hX 55 38 rfl) ?_
      refine ev_iload_n (x := x2) (pc := 26) d_mo_done_26 rfl ?_
      refine ev_ialdJ (v := (gI X 85 (Int32.toNatClampNeg x2))) (pc := 27) d_mo_done_27 (ly_at hX 85 rfl) h_3.1 rfl ?_
      refine ev_goto (pc := 28) (tgt := 32) d_mo_done_28 (by decide) ?_
      refine ev_ior (pc := 32) d_mo_done_32 ?_
      refine ev_istore_n (L2 := [(0, .ref 55), (1, .int (x1 ||| (gI X 85 (Int32.toNatClampNeg x2)))), (2, .int x2)]) (pc := 33) d_mo_done_33 rfl (Nat.le_of_ble_eq_true rfl) rfl ?_
      refine ev_iinc (v := (x2 + 1)) (L2 := [(0, .ref 55), (1, .int (x1 ||| (gI X 85 (Int32.toNatClampNeg x2)))), (2, .int (x2 + 1))]) (pc := 34) d_mo_done_34 rfl (by rw [kc_i_1]) rfl (Nat.le_of_ble_eq_true rfl) rfl ?_
      refine ev_goto (pc := 37) (tgt := 4) d_mo_done_37 (by decide) ?_
      exact h_6
theorem b_mo_hinders_0 {E : gp_E} {S : gp_S} {X : gp_H} {Q : Option Value → gp_H → Prop} {x1 : Int32} {x2 : Int32} (hX : Lay S X)  (hh : Ev E m_mo_hinders 2 [(0, .ref 55), (1, .int x1), (2, .int x2), (3, .int 0)] [] X (0, 0) Q) : Ev E m_mo_hinders 0 [(0, .ref 55), (1, .int x1), (2, .int x2)] [] X (0, 0) Q := by
  refine ev_iconst (v := 0) (pc := 0) d_mo_hinders_0 kc_i_0 ?_
  refine ev_istore_n (L2 := [(0, .ref 55), (1, .int x1), (2, .int x2), (3, .int 0)]) (pc := 1) d_mo_hinders_1 rfl (Nat.le_of_ble_eq_true rfl) rfl ?_
  exact hh
theorem b_mo_hinders_2 {E : gp_E} {S : gp_S} {X : gp_H} {Q : Option Value → gp_H → Prop} {x1 : Int32} {x2 : Int32} {x3 : Int32} (hX : Lay S X)  (hh : (((gI X 55 1) ≤ x3 → ((¬ (gI X 55 11) = (-1) → (∃ Qz_7, Ev E m_mo_reach 0 [(0, .ref 55), (1, .int (gI X 55 11)), (2, .int x1), (3, .int 0)] [] X (0, 0) Qz_7 ∧ ∀ r X_10, Qz_7 r X_10 → ∃ v_15 : Int32, r = some (.int v_15) ∧ Lay S X_10 ∧ Ev E m_mo_hinders 58 [(0, .ref 55), (1, .int x1), (2, .int x2), (3, .int x3)] [.int v_15] X_10 (0, 0) Q)) ∧ ((gI X 55 11) = (-1) → Ev E m_mo_hinders 58 [(0, .ref 55), (1, .int x1), (2, .int x2), (3, .int x3)] [.int 0] X (0, 0) Q))) ∧ (¬ (gI X 55 1) ≤ x3 → (∃ Qz_16, Ev E m_mo_isBorder 0 [(0, .ref 55), (1, .int x3), (2, .int x1)] [] X (0, 0) Qz_16 ∧ ∀ r X_19, Qz_16 r X_19 → ∃ v_24 : Int32, r = some (.int v_24) ∧ Lay S X_19 ∧ ((v_24 = 0 → Ev E m_mo_hinders 2 [(0, .ref 55), (1, .int x1), (2, .int x2), (3, .int (x3 + 1))] [] X_19 (0, 0) Q) ∧ (¬ v_24 = 0 → (vp_in x3 20 ∧ ((¬ (gI X_19 58 (Int32.toNatClampNeg x3)) = 0 → Ev E m_mo_hinders 2 [(0, .ref 55), (1, .int x1), (2, .int x2), (3, .int (x3 + 1))] [] X_19 (0, 0) Q) ∧ ((gI X_19 58 (Int32.toNatClampNeg x3)) = 0 → Q (some (.int 2)) X_19))))))))) : Ev E m_mo_hinders 2 [(0, .ref 55), (1, .int x1), (2, .int x2), (3, .int x3)] [] X (0, 0) Q := by
  refine ev_iload_n (x := x3) (pc := 2) d_mo_hinders_2 rfl ?_
  refine ev_aload_n (x := 55) (pc := 3) d_mo_hinders_3 rfl ?_
  refine ev_getJ (v := (gI X 55 1)) (pc := 4) d_mo_hinders_4 f_mo_216 (ly_at hX 55 rfl) gg_12 rfl rfl ?_
  refine ev_icmp_ge (pc := 7) (tgt := 36) d_mo_hinders_7 (by decide) (fun c_1 => ?_) (fun c_1 => ?_)
  · have h_2 := hh.1 c_1
    refine ev_aload_n (x := 55) (pc := 36) d_mo_hinders_36 rfl ?_
    refine ev_getJ (v := (gI X 55 11)) (pc := 37) d_mo_hinders_37 f_mo_35 (ly_at hX 55 rfl) gg_12 rfl rfl ?_
    refine ev_iconst (v := (-1)) (pc := 40) d_mo_hinders_40 kc_i_m1 ?_
    refine ev_icmp_ne (pc := 41) (tgt := 48) d_mo_hinders_41 (by decide) (fun c_4 => ?_) (fun c_4 => ?_)
    · have h_5 := h_2.1 c_4
      refine ev_aload_n (x := 55) (pc := 48) d_mo_hinders_48 rfl ?_
      refine ev_aload_n (x := 55) (pc := 49) d_mo_hinders_49 rfl ?_
      refine ev_getJ (v := (gI X 55 11)) (pc := 50) d_mo_hinders_50 f_mo_35 (ly_at hX 55 rfl) gg_12 rfl rfl ?_
      refine ev_iload_n (x := x1) (pc := 53) d_mo_hinders_53 rfl ?_
      refine ev_iconst (v := 0) (pc := 54) d_mo_hinders_54 kc_i_0 ?_
      obtain ⟨Qz_7, hc_8, hk_9⟩ := h_5
      refine ev_callV (z := m_mo_reach) (as := [.int (gI X 55 11), .int x1, .int 0]) (rest := []) (pc := 55) d_mo_hinders_55 (ly_at hX 55 rfl) lt13_12 rfl l_mo_230 i_mo_reach v_mo_reach o_mo_reach rfl rfl (Nat.le_of_ble_eq_true rfl) rfl (Nat.le_of_ble_eq_true rfl) ⟨Nat.le_of_ble_eq_true rfl, Nat.le_of_ble_eq_true rfl⟩ hc_8 (fun r_11 X_10 hq_12 => ?_)
      obtain ⟨v_15, rfl, hX_14, h_13⟩ := hk_9 _ _ hq_12
      show Ev E m_mo_hinders 58 [(0, .ref 55), (1, .int x1), (2, .int x2), (3, .int x3)] [.int v_15] X_10 (0, 0) Q
      exact h_13
    · have h_6 := h_2.2 c_4
      refine ev_iconst (v := 0) (pc := 44) d_mo_hinders_44 kc_i_0 ?_
      refine ev_goto (pc := 45) (tgt := 58) d_mo_hinders_45 (by decide) ?_
      exact h_6
  · have h_3 := hh.2 c_1
    refine ev_aload_n (x := 55) (pc := 10) d_mo_hinders_10 rfl ?_
    refine ev_iload_n (x := x3) (pc := 11) d_mo_hinders_11 rfl ?_
    refine ev_iload_n (x := x1) (pc := 12) d_mo_hinders_12 rfl ?_
    obtain ⟨Qz_16, hc_17, hk_18⟩ := h_3
    refine ev_callV (z := m_mo_isBorder) (as := [.int x3, .int x1]) (rest := []) (pc := 13) d_mo_hinders_13 (ly_at hX 55 rfl) lt13_12 rfl l_mo_280 i_mo_isBorder v_mo_isBorder o_mo_isBorder rfl rfl (Nat.le_of_ble_eq_true rfl) rfl (Nat.le_of_ble_eq_true rfl) ⟨Nat.le_of_ble_eq_true rfl, Nat.le_of_ble_eq_true rfl⟩ hc_17 (fun r_20 X_19 hq_21 => ?_)
    obtain ⟨v_24, rfl, hX_23, h_22⟩ := hk_18 _ _ hq_21
    show Ev E m_mo_hinders 16 [(0, .ref 55), (1, .int x1), (2, .int x2), (3, .int x3)] [.int v_24] X_19 (0, 0) Q
    refine ev_if_eq (pc := 16) (tgt := 30) d_mo_hinders_16 (by decide) (fun c_25 => ?_) (fun c_25 => ?_)
    · have h_26 := h_22.1 c_25
      refine ev_iinc (v := (x3 + 1)) (L2 := [(0, .ref 55), (1, .int x1), (2, .int x2), (3, .int (x3 + 1))]) (pc := 30) d_mo_hinders_30 rfl (by rw [kc_i_1]) rfl (Nat.le_of_ble_eq_true rfl) rfl ?_
      refine ev_goto (pc := 33) (tgt := 2) d_mo_hinders_33 (by decide) ?_
      exact h_26
    · have h_27 := h_22.2 c_25
      refine ev_aload_n (x := 55) (pc := 19) d_mo_hinders_19 rfl ?_
      refine ev_getR (pc := 20) d_mo_hinders_20 f_mo_16 (ly_at hX_23 55 rfl) gg_12 rfl (ly_rf hX_23 55 4 rfl) ?_
      refine ev_iload_n (x := x3) (pc := 23) d_mo_hinders_23 rfl ?_
      refine ev_zaldJ (v := (gI X_19 58 (Int32.toNatClampNeg x3))) (pc := 24) d_mo_hinders_24 (ly_at hX_23 58 rfl) h_27.1 rfl ?_
      refine ev_if_ne (pc := 25) (tgt := 30) d_mo_hinders_25 (by decide) (fun c_28 => ?_) (fun c_28 => ?_)
      · have h_29 := h_27.2.1 c_28
        refine ev_iinc (v := (x3 + 1)) (L2 := [(0, .ref 55), (1, .int x1), (2, .int x2), (3, .int (x3 + 1))]) (pc := 30) d_mo_hinders_30 rfl (by rw [kc_i_1]) rfl (Nat.le_of_ble_eq_true rfl) rfl ?_
        refine ev_goto (pc := 33) (tgt := 2) d_mo_hinders_33 (by decide) ?_
        exact h_29
      · have h_30 := h_27.2.2 c_28
        refine ev_iconst (v := 2) (pc := 28) d_mo_hinders_28 kc_i_2 ?_
        exact ev_iret (pc := 29) ⟨Nat.le_of_ble_eq_true rfl, Nat.le_of_ble_eq_true rfl⟩ d_mo_hinders_29 rfl (vp_nar_int _) h_30
theorem b_mo_hinders_58 {E : gp_E} {S : gp_S} {X : gp_H} {Q : Option Value → gp_H → Prop} {x1 : Int32} {x2 : Int32} {x3 : Int32} {t0 : Int32} (hX : Lay S X)  (hh : (((x2 &&& (t0 ^^^ (-1))) = 0 → Ev E m_mo_hinders 82 [(0, .ref 55), (1, .int x1), (2, .int x2), (3, .int t0), (4, .int ((((1 : Int32) <<< ((gI X 55 0) &&& 31)) - 1) &&& (x1 ^^^ (-1)))), (5, .int 0)] [] X (0, 0) Q) ∧ (¬ (x2 &&& (t0 ^^^ (-1))) = 0 → Q (some (.int 3)) X))) : Ev E m_mo_hinders 58 [(0, .ref 55), (1, .int x1), (2, .int x2), (3, .int x3)] [.int t0] X (0, 0) Q := by
  refine ev_istore_n (L2 := [(0, .ref 55), (1, .int x1), (2, .int x2), (3, .int t0)]) (pc := 58) d_mo_hinders_58 rfl (Nat.le_of_ble_eq_true rfl) rfl ?_
  refine ev_iload_n (x := x2) (pc := 59) d_mo_hinders_59 rfl ?_
  refine ev_iload_n (x := t0) (pc := 60) d_mo_hinders_60 rfl ?_
  refine ev_iconst (v := (-1)) (pc := 61) d_mo_hinders_61 kc_i_m1 ?_
  refine ev_ixor (pc := 62) d_mo_hinders_62 ?_
  refine ev_iand (pc := 63) d_mo_hinders_63 ?_
  refine ev_if_eq (pc := 64) (tgt := 69) d_mo_hinders_64 (by decide) (fun c_1 => ?_) (fun c_1 => ?_)
  · have h_2 := hh.1 c_1
    refine ev_aload_n (x := 55) (pc := 69) d_mo_hinders_69 rfl ?_
    refine ev_callV (z := m_mo_all) (as := []) (rest := []) (pc := 70) d_mo_hinders_70 (ly_at hX 55 rfl) lt13_12 rfl l_mo_226 i_mo_all v_mo_all o_mo_all rfl rfl (Nat.le_of_ble_eq_true rfl) rfl (Nat.le_of_ble_eq_true rfl) ⟨Nat.le_of_ble_eq_true rfl, Nat.le_of_ble_eq_true rfl⟩ (s_mo_all hX  ) (fun r X1 hq => ?_)
    obtain ⟨rfl, rfl⟩ := hq
    show Ev E m_mo_hinders 73 [(0, .ref 55), (1, .int x1), (2, .int x2), (3, .int t0)] [.int (((1 : Int32) <<< ((gI X 55 0) &&& 31)) - 1)] X (0, 0) Q
    refine ev_iload_n (x := x1) (pc := 73) d_mo_hinders_73 rfl ?_
    refine ev_iconst (v := (-1)) (pc := 74) d_mo_hinders_74 kc_i_m1 ?_
    refine ev_ixor (pc := 75) d_mo_hinders_75 ?_
    refine ev_iand (pc := 76) d_mo_hinders_76 ?_
    refine ev_istore (L2 := [(0, .ref 55), (1, .int x1), (2, .int x2), (3, .int t0), (4, .int ((((1 : Int32) <<< ((gI X 55 0) &&& 31)) - 1) &&& (x1 ^^^ (-1))))]) (pc := 77) d_mo_hinders_77 rfl (Nat.le_of_ble_eq_true rfl) rfl ?_
    refine ev_iconst (v := 0) (pc := 79) d_mo_hinders_79 kc_i_0 ?_
    refine ev_istore (L2 := [(0, .ref 55), (1, .int x1), (2, .int x2), (3, .int t0), (4, .int ((((1 : Int32) <<< ((gI X 55 0) &&& 31)) - 1) &&& (x1 ^^^ (-1)))), (5, .int 0)]) (pc := 80) d_mo_hinders_80 rfl (Nat.le_of_ble_eq_true rfl) rfl ?_
    exact h_2
  · have h_3 := hh.2 c_1
    refine ev_iconst (v := 3) (pc := 67) d_mo_hinders_67 kc_i_3 ?_
    exact ev_iret (pc := 68) ⟨Nat.le_of_ble_eq_true rfl, Nat.le_of_ble_eq_true rfl⟩ d_mo_hinders_68 rfl (vp_nar_int _) h_3
theorem b_mo_hinders_82 {E : gp_E} {S : gp_S} {X : gp_H} {Q : Option Value → gp_H → Prop} {x1 : Int32} {x2 : Int32} {x3 : Int32} {x4 : Int32} {x5 : Int32} (hX : Lay S X)  (hh : (((gI X 55 0) ≤ x5 → Q (some (.int 0)) X) ∧ (¬ (gI X 55 0) ≤ x5 → (((gb x4 x5) = false → Ev E m_mo_hinders 82 [(0, .ref 55), (1, .int x1), (2, .int x2), (3, .int x3), (4, .int x4), (5, .int (x5 + 1))] [] X (0, 0) Q) ∧ ((gb x4 x5) = true → (∃ Qz_7, Ev E m_mo_reach 0 [(0, .ref 55), (1, .int x5), (2, .int x4), (3, .int 0)] [] X (0, 0) Qz_7 ∧ ∀ r X_10, Qz_7 r X_10 → ∃ v_15 : Int32, r = some (.int v_15) ∧ Lay S X_10 ∧ (∃ Qz_16, Ev E m_mo_useAt 0 [(0, .ref 55), (1, .int v_15), (2, .int 0)] [] X_10 (0, 0) Qz_16 ∧ ∀ r X_19, Qz_16 r X_19 → ∃ v_24 : Int32, r = some (.int v_24) ∧ Lay S X_19 ∧ (∃ Qz_25, Ev E m_mo_makeAt 0 [(0, .ref 55), (1, .int v_15)] [] X_19 (0, 0) Qz_25 ∧ ∀ r X_28, Qz_25 r X_28 → ∃ v_33 : Int32, r = some (.int v_33) ∧ Lay S X_28 ∧ ((v_24 ≤ v_33 → Ev E m_mo_hinders 82 [(0, .ref 55), (1, .int x1), (2, .int x2), (3, .int x3), (4, .int x4), (5, .int (x5 + 1))] [] X_28 (0, 0) Q) ∧ (¬ v_24 ≤ v_33 → Q (some (.int 4)) X_28)))))))))) : Ev E m_mo_hinders 82 [(0, .ref 55), (1, .int x1), (2, .int x2), (3, .int x3), (4, .int x4), (5, .int x5)] [] X (0, 0) Q := by
  refine ev_iload (x := x5) (pc := 82) d_mo_hinders_82 rfl ?_
  refine ev_aload_n (x := 55) (pc := 84) d_mo_hinders_84 rfl ?_
  refine ev_getJ (v := (gI X 55 0)) (pc := 85) d_mo_hinders_85 f_mo_193 (ly_at hX 55 rfl) gg_12 rfl rfl ?_
  refine ev_icmp_ge (pc := 88) (tgt := 136) d_mo_hinders_88 (by decide) (fun c_1 => ?_) (fun c_1 => ?_)
  · have h_2 := hh.1 c_1
    refine ev_iconst (v := 0) (pc := 136) d_mo_hinders_136 kc_i_0 ?_
    exact ev_iret (pc := 137) ⟨Nat.le_of_ble_eq_true rfl, Nat.le_of_ble_eq_true rfl⟩ d_mo_hinders_137 rfl (vp_nar_int _) h_2
  · have h_3 := hh.2 c_1
    refine ev_iload (x := x4) (pc := 91) d_mo_hinders_91 rfl ?_
    refine ev_iload (x := x5) (pc := 93) d_mo_hinders_93 rfl ?_
    refine ev_callS (z := m_mo_has) (as := [.int x4, .int x5]) (rest := []) (pc := 95) d_mo_hinders_95 l_mo_222 i_mo_has o_mo_has rfl rfl (Nat.le_of_ble_eq_true rfl) rfl (Nat.le_of_ble_eq_true rfl) ⟨Nat.le_of_ble_eq_true rfl, Nat.le_of_ble_eq_true rfl⟩ (s_mo_has hX x4 x5) (fun r X1 hq => ?_)
    obtain ⟨rfl, rfl⟩ := hq
    show Ev E m_mo_hinders 98 [(0, .ref 55), (1, .int x1), (2, .int x2), (3, .int x3), (4, .int x4), (5, .int x5)] [.int (bz (gb x4 x5))] X (0, 0) Q
    refine ev_ifz_eq (pc := 98) (tgt := 130) d_mo_hinders_98 (by decide) (fun c_4 => ?_) (fun c_4 => ?_)
    · have h_5 := h_3.1 c_4
      refine ev_iinc (v := (x5 + 1)) (L2 := [(0, .ref 55), (1, .int x1), (2, .int x2), (3, .int x3), (4, .int x4), (5, .int (x5 + 1))]) (pc := 130) d_mo_hinders_130 rfl (by rw [kc_i_1]) rfl (Nat.le_of_ble_eq_true rfl) rfl ?_
      refine ev_goto (pc := 133) (tgt := 82) d_mo_hinders_133 (by decide) ?_
      exact h_5
    · have h_6 := h_3.2 c_4
      refine ev_aload_n (x := 55) (pc := 101) d_mo_hinders_101 rfl ?_
      refine ev_iload (x := x5) (pc := 102) d_mo_hinders_102 rfl ?_
      refine ev_iload (x := x4) (pc := 104) d_mo_hinders_104 rfl ?_
      refine ev_iconst (v := 0) (pc := 106) d_mo_hinders_106 kc_i_0 ?_
      obtain ⟨Qz_7, hc_8, hk_9⟩ := h_6
      refine ev_callV (z := m_mo_reach) (as := [.int x5, .int x4, .int 0]) (rest := []) (pc := 107) d_mo_hinders_107 (ly_at hX 55 rfl) lt13_12 rfl l_mo_230 i_mo_reach v_mo_reach o_mo_reach rfl rfl (Nat.le_of_ble_eq_true rfl) rfl (Nat.le_of_ble_eq_true rfl) ⟨Nat.le_of_ble_eq_true rfl, Nat.le_of_ble_eq_true rfl⟩ hc_8 (fun r_11 X_10 hq_12 => ?_)
      obtain ⟨v_15, rfl, hX_14, h_13⟩ := hk_9 _ _ hq_12
      show Ev E m_mo_hinders 110 [(0, .ref 55), (1, .int x1), (2, .int x2), (3, .int x3), (4, .int x4), (5, .int x5)] [.int v_15] X_10 (0, 0) Q
      refine ev_istore (L2 := [(0, .ref 55), (1, .int x1), (2, .int x2), (3, .int x3), (4, .int x4), (5, .int x5), (6, .int v_15)]) (pc := 110) d_mo_hinders_110 rfl (Nat.le_of_ble_eq_true rfl) rfl ?_
      refine ev_aload_n (x := 55) (pc := 112) d_mo_hinders_112 rfl ?_
      refine ev_iload (x := v_15) (pc := 113) d_mo_hinders_113 rfl ?_
      refine ev_iconst (v := 0) (pc := 115) d_mo_hinders_115 kc_i_0 ?_
      obtain ⟨Qz_16, hc_17, hk_18⟩ := h_13
      refine ev_callV (z := m_mo_useAt) (as := [.int v_15, .int 0]) (rest := []) (pc := 116) d_mo_hinders_116 (ly_at hX_14 55 rfl) lt13_12 rfl l_mo_241 i_mo_useAt v_mo_useAt o_mo_useAt rfl rfl (Nat.le_of_ble_eq_true rfl) rfl (Nat.le_of_ble_eq_true rfl) ⟨Nat.le_of_ble_eq_true rfl, Nat.le_of_ble_eq_true rfl⟩ hc_17 (fun r_20 X_19 hq_21 => ?_)
      obtain ⟨v_24, rfl, hX_23, h_22⟩ := hk_18 _ _ hq_21
      show Ev E m_mo_hinders 119 [(0, .ref 55), (1, .int x1), (2, .int x2), (3, .int x3), (4, .int x4), (5, .int x5), (6, .int v_15)] [.int v_24] X_19 (0, 0) Q
      refine ev_aload_n (x := 55) (pc := 119) d_mo_hinders_119 rfl ?_
      refine ev_iload (x := v_15) (pc := 120) d_mo_hinders_120 rfl ?_
      obtain ⟨Qz_25, hc_26, hk_27⟩ := h_22
      refine ev_callV (z := m_mo_makeAt) (as := [.int v_15]) (rest := [.int v_24]) (pc := 122) d_mo_hinders_122 (ly_at hX_23 55 rfl) lt13_12 rfl l_mo_238 i_mo_makeAt v_mo_makeAt o_mo_makeAt rfl rfl (Nat.le_of_ble_eq_true rfl) rfl (Nat.le_of_ble_eq_true rfl) ⟨Nat.le_of_ble_eq_true rfl, Nat.le_of_ble_eq_true rfl⟩ hc_26 (fun r_29 X_28 hq_30 => ?_)
      obtain ⟨v_33, rfl, hX_32, h_31⟩ := hk_27 _ _ hq_30
      show Ev E m_mo_hinders 125 [(0, .ref 55), (1, .int x1), (2, .int x2), (3, .int x3), (4, .int x4), (5, .int x5), (6, .int v_15)] [.int v_33, .int v_24] X_28 (0, 0) Q
      refine ev_icmp_le (pc := 125) (tgt := 130) d_mo_hinders_125 (by decide) (fun c_34 => ?_) (fun c_34 => ?_)
      · have h_35 := h_31.1 c_34
        refine ev_iinc (v := (x5 + 1)) (L2 := [(0, .ref 55), (1, .int x1), (2, .int x2), (3, .int x3), (4, .int x4), (5, .int (x5 + 1)), (6, .int v_15)]) (pc := 130) d_mo_hinders_130 rfl (by rw [kc_i_1]) rfl (Nat.le_of_ble_eq_true rfl) rfl ?_
        refine ev_goto (pc := 133) (tgt := 82) d_mo_hinders_133 (by decide) ?_
        exact ev_sub [(0, .ref 55), (1, .int x1), (2, .int x2), (3, .int x3), (4, .int x4), (5, .int (x5 + 1))] (List.forall_mem_cons.mpr ⟨rfl, (List.forall_mem_cons.mpr ⟨rfl, (List.forall_mem_cons.mpr ⟨rfl, (List.forall_mem_cons.mpr ⟨rfl, (List.forall_mem_cons.mpr ⟨rfl, (List.forall_mem_cons.mpr ⟨rfl, (fun _ h => nomatch h)⟩)⟩)⟩)⟩)⟩)⟩) h_35
      · have h_36 := h_31.2 c_34
        refine ev_iconst (v := 4) (pc := 128) d_mo_hinders_128 kc_i_4 ?_
        exact ev_iret (pc := 129) ⟨Nat.le_of_ble_eq_true rfl, Nat.le_of_ble_eq_true rfl⟩ d_mo_hinders_129 rfl (vp_nar_int _) h_36
theorem b_mo_isBorder_0 {E : gp_E} {S : gp_S} {X : gp_H} {Q : Option Value → gp_H → Prop} {x1 : Int32} {x2 : Int32} (hX : Lay S X)  (hh : (vp_in x1 20 ∧ (((bz (gb x2 (gI X 56 (Int32.toNatClampNeg x1)))) = (bz (gb x2 (gI X 57 (Int32.toNatClampNeg x1)))) → Q (some (.int 0)) X) ∧ (¬ (bz (gb x2 (gI X 56 (Int32.toNatClampNeg x1)))) = (bz (gb x2 (gI X 57 (Int32.toNatClampNeg x1)))) → Q (some (.int 1)) X)))) : Ev E m_mo_isBorder 0 [(0, .ref 55), (1, .int x1), (2, .int x2)] [] X (0, 0) Q := by
  refine ev_iload_n (x := x2) (pc := 0) d_mo_isBorder_0 rfl ?_
  refine ev_aload_n (x := 55) (pc := 1) d_mo_isBorder_1 rfl ?_
  refine ev_getR (pc := 2) d_mo_isBorder_2 f_mo_7 (ly_at hX 55 rfl) gg_12 rfl (ly_rf hX 55 2 rfl) ?_
  refine ev_iload_n (x := x1) (pc := 5) d_mo_isBorder_5 rfl ?_
  refine ev_ialdJ (v := (gI X 56 (Int32.toNatClampNeg x1))) (pc := 6) d_mo_isBorder_6 (ly_at hX 56 rfl) hh.1 rfl ?_
  refine ev_callS (z := m_mo_has) (as := [.int x2, .int (gI X 56 (Int32.toNatClampNeg x1))]) (rest := []) (pc := 7) d_mo_isBorder_7 l_mo_222 i_mo_has o_mo_has rfl rfl (Nat.le_of_ble_eq_true rfl) rfl (Nat.le_of_ble_eq_true rfl) ⟨Nat.le_of_ble_eq_true rfl, Nat.le_of_ble_eq_true rfl⟩ (s_mo_has hX x2 (gI X 56 (Int32.toNatClampNeg x1))) (fun r X1 hq => ?_)
  obtain ⟨rfl, rfl⟩ := hq
  show Ev E m_mo_isBorder 10 [(0, .ref 55), (1, .int x1), (2, .int x2)] [.int (bz (gb x2 (gI X 56 (Int32.toNatClampNeg x1))))] X (0, 0) Q
  refine ev_iload_n (x := x2) (pc := 10) d_mo_isBorder_10 rfl ?_
  refine ev_aload_n (x := 55) (pc := 11) d_mo_isBorder_11 rfl ?_
  refine ev_getR (pc := 12) d_mo_isBorder_12 f_mo_13 (ly_at hX 55 rfl) gg_12 rfl (ly_rf hX 55 3 rfl) ?_
  refine ev_iload_n (x := x1) (pc := 15) d_mo_isBorder_15 rfl ?_
  refine ev_ialdJ (v := (gI X 57 (Int32.toNatClampNeg x1))) (pc := 16) d_mo_isBorder_16 (ly_at hX 57 rfl) hh.1 rfl ?_
  refine ev_callS (z := m_mo_has) (as := [.int x2, .int (gI X 57 (Int32.toNatClampNeg x1))]) (rest := [.int (bz (gb x2 (gI X 56 (Int32.toNatClampNeg x1))))]) (pc := 17) d_mo_isBorder_17 l_mo_222 i_mo_has o_mo_has rfl rfl (Nat.le_of_ble_eq_true rfl) rfl (Nat.le_of_ble_eq_true rfl) ⟨Nat.le_of_ble_eq_true rfl, Nat.le_of_ble_eq_true rfl⟩ (s_mo_has hX x2 (gI X 57 (Int32.toNatClampNeg x1))) (fun r X1 hq => ?_)
  obtain ⟨rfl, rfl⟩ := hq
  show Ev E m_mo_isBorder 20 [(0, .ref 55), (1, .int x1), (2, .int x2)] [.int (bz (gb x2 (gI X 57 (Int32.toNatClampNeg x1)))), .int (bz (gb x2 (gI X 56 (Int32.toNatClampNeg x1))))] X (0, 0) Q
  refine ev_icmp_eq (pc := 20) (tgt := 27) d_mo_isBorder_20 (by decide) (fun c_1 => ?_) (fun c_1 => ?_)
  · have h_2 := hh.2.1 c_1
    refine ev_iconst (v := 0) (pc := 27) d_mo_isBorder_27 kc_i_0 ?_
    exact ev_iret (pc := 28) ⟨Nat.le_of_ble_eq_true rfl, Nat.le_of_ble_eq_true rfl⟩ d_mo_isBorder_28 rfl nb_0 h_2
  · have h_3 := hh.2.2 c_1
    refine ev_iconst (v := 1) (pc := 23) d_mo_isBorder_23 kc_i_1 ?_
    refine ev_goto (pc := 24) (tgt := 28) d_mo_isBorder_24 (by decide) ?_
    exact ev_iret (pc := 28) ⟨Nat.le_of_ble_eq_true rfl, Nat.le_of_ble_eq_true rfl⟩ d_mo_isBorder_28 rfl nb_1 h_3
theorem b_mo_isBarred_0 {E : gp_E} {S : gp_S} {X : gp_H} {Q : Option Value → gp_H → Prop} {x1 : Int32} (hX : Lay S X)  (hh : Ev E m_mo_isBarred 4 [(0, .ref 55), (1, .int x1), (2, .int 0), (3, .int 0)] [] X (0, 0) Q) : Ev E m_mo_isBarred 0 [(0, .ref 55), (1, .int x1)] [] X (0, 0) Q := by
  refine ev_iconst (v := 0) (pc := 0) d_mo_isBarred_0 kc_i_0 ?_
  refine ev_istore_n (L2 := [(0, .ref 55), (1, .int x1), (2, .int 0)]) (pc := 1) d_mo_isBarred_1 rfl (Nat.le_of_ble_eq_true rfl) rfl ?_
  refine ev_iconst (v := 0) (pc := 2) d_mo_isBarred_2 kc_i_0 ?_
  refine ev_istore_n (L2 := [(0, .ref 55), (1, .int x1), (2, .int 0), (3, .int 0)]) (pc := 3) d_mo_isBarred_3 rfl (Nat.le_of_ble_eq_true rfl) rfl ?_
  exact hh
theorem b_mo_isBarred_4 {E : gp_E} {S : gp_S} {X : gp_H} {Q : Option Value → gp_H → Prop} {x1 : Int32} {x2 : Int32} {x3 : Int32} (hX : Lay S X)  (hh : (((gI X 55 57) ≤ x3 → (narrow .boolean (.int x2) = .int x2 ∧ Q (some (.int x2)) X)) ∧ (¬ (gI X 55 57) ≤ x3 → ((¬ x2 = 0 → Ev E m_mo_isBarred 57 [(0, .ref 55), (1, .int x1), (2, .int x2), (3, .int x3)] [] X (0, 0) Q) ∧ (x2 = 0 → (vp_in x3 10 ∧ (((gI X 101 (Int32.toNatClampNeg x3)) = 0 → Ev E m_mo_isBarred 4 [(0, .ref 55), (1, .int x1), (2, .int 0), (3, .int (x3 + 1))] [] X (0, 0) Q) ∧ (¬ (gI X 101 (Int32.toNatClampNeg x3)) = 0 → ((¬ (gI X 97 (Int32.toNatClampNeg x3)) = x1 → Ev E m_mo_isBarred 4 [(0, .ref 55), (1, .int x1), (2, .int 0), (3, .int (x3 + 1))] [] X (0, 0) Q) ∧ ((gI X 97 (Int32.toNatClampNeg x3)) = x1 → (((iw (gI X 55 44) (gI X 98 (Int32.toNatClampNeg x3)) (gI X 99 (Int32.toNatClampNeg x3))) = false → Ev E m_mo_isBarred 4 [(0, .ref 55), (1, .int x1), (2, .int 0), (3, .int (x3 + 1))] [] X (0, 0) Q) ∧ ((iw (gI X 55 44) (gI X 98 (Int32.toNatClampNeg x3)) (gI X 99 (Int32.toNatClampNeg x3))) = true → Ev E m_mo_isBarred 57 [(0, .ref 55), (1, .int x1), (2, .int x2), (3, .int x3)] [] X (0, 0) Q)))))))))))) : Ev E m_mo_isBarred 4 [(0, .ref 55), (1, .int x1), (2, .int x2), (3, .int x3)] [] X (0, 0) Q := by
  refine ev_iload_n (x := x3) (pc := 4) d_mo_isBarred_4 rfl ?_
  refine ev_aload_n (x := 55) (pc := 5) d_mo_isBarred_5 rfl ?_
  refine ev_getJ (v := (gI X 55 57)) (pc := 6) d_mo_isBarred_6 f_mo_283 (ly_at hX 55 rfl) gg_12 rfl rfl ?_
  refine ev_icmp_ge (pc := 9) (tgt := 69) d_mo_isBarred_9 (by decide) (fun c_1 => ?_) (fun c_1 => ?_)
  · have h_2 := hh.1 c_1
    refine ev_iload_n (x := x2) (pc := 69) d_mo_isBarred_69 rfl ?_
    exact ev_iret (pc := 70) ⟨Nat.le_of_ble_eq_true rfl, Nat.le_of_ble_eq_true rfl⟩ d_mo_isBarred_70 rfl h_2.1 h_2.2
  · have h_3 := hh.2 c_1
    refine ev_iload_n (x := x2) (pc := 12) d_mo_isBarred_12 rfl ?_
    refine ev_if_ne (pc := 13) (tgt := 57) d_mo_isBarred_13 (by decide) (fun c_4 => ?_) (fun c_4 => ?_)
    · have h_5 := h_3.1 c_4
      exact h_5
    · have h_6 := h_3.2 c_4
      refine ev_aload_n (x := 55) (pc := 16) d_mo_isBarred_16 rfl ?_
      refine ev_getR (pc := 17) d_mo_isBarred_17 f_mo_153 (ly_at hX 55 rfl) gg_12 rfl (ly_rf hX 55 62 rfl) ?_
      refine ev_iload_n (x := x3) (pc := 20) d_mo_isBarred_20 rfl ?_
      refine ev_zaldJ (v := (gI X 101 (Int32.toNatClampNeg x3))) (pc := 21) d_mo_isBarred_21 (ly_at hX 101 rfl) h_6.1 rfl ?_
      refine ev_if_eq (pc := 22) (tgt := 61) d_mo_isBarred_22 (by decide) (fun c_7 => ?_) (fun c_7 => ?_)
      · have h_8 := h_6.2.1 c_7
        refine ev_iconst (v := 0) (pc := 61) d_mo_isBarred_61 kc_i_0 ?_
        refine ev_istore_n (L2 := [(0, .ref 55), (1, .int x1), (2, .int 0), (3, .int x3)]) (pc := 62) d_mo_isBarred_62 rfl (Nat.le_of_ble_eq_true rfl) rfl ?_
        refine ev_iinc (v := (x3 + 1)) (L2 := [(0, .ref 55), (1, .int x1), (2, .int 0), (3, .int (x3 + 1))]) (pc := 63) d_mo_isBarred_63 rfl (by rw [kc_i_1]) rfl (Nat.le_of_ble_eq_true rfl) rfl ?_
        refine ev_goto (pc := 66) (tgt := 4) d_mo_isBarred_66 (by decide) ?_
        exact h_8
      · have h_9 := h_6.2.2 c_7
        refine ev_aload_n (x := 55) (pc := 25) d_mo_isBarred_25 rfl ?_
        refine ev_getR (pc := 26) d_mo_isBarred_26 f_mo_141 (ly_at hX 55 rfl) gg_12 rfl (ly_rf hX 55 58 rfl) ?_
        refine ev_iload_n (x := x3) (pc := 29) d_mo_isBarred_29 rfl ?_
        refine ev_ialdJ (v := (gI X 97 (Int32.toNatClampNeg x3))) (pc := 30) d_mo_isBarred_30 (ly_at hX 97 rfl) h_6.1 rfl ?_
        refine ev_iload_n (x := x1) (pc := 31) d_mo_isBarred_31 rfl ?_
        refine ev_icmp_ne (pc := 32) (tgt := 61) d_mo_isBarred_32 (by decide) (fun c_10 => ?_) (fun c_10 => ?_)
        · have h_11 := h_9.1 c_10
          refine ev_iconst (v := 0) (pc := 61) d_mo_isBarred_61 kc_i_0 ?_
          refine ev_istore_n (L2 := [(0, .ref 55), (1, .int x1), (2, .int 0), (3, .int x3)]) (pc := 62) d_mo_isBarred_62 rfl (Nat.le_of_ble_eq_true rfl) rfl ?_
          refine ev_iinc (v := (x3 + 1)) (L2 := [(0, .ref 55), (1, .int x1), (2, .int 0), (3, .int (x3 + 1))]) (pc := 63) d_mo_isBarred_63 rfl (by rw [kc_i_1]) rfl (Nat.le_of_ble_eq_true rfl) rfl ?_
          refine ev_goto (pc := 66) (tgt := 4) d_mo_isBarred_66 (by decide) ?_
          exact h_11
        · have h_12 := h_9.2 c_10
          refine ev_aload_n (x := 55) (pc := 35) d_mo_isBarred_35 rfl ?_
          refine ev_getJ (v := (gI X 55 44)) (pc := 36) d_mo_isBarred_36 f_mo_274 (ly_at hX 55 rfl) gg_12 rfl rfl ?_
          refine ev_aload_n (x := 55) (pc := 39) d_mo_isBarred_39 rfl ?_
          refine ev_getR (pc := 40) d_mo_isBarred_40 f_mo_144 (ly_at hX 55 rfl) gg_12 rfl (ly_rf hX 55 59 rfl) ?_
          refine ev_iload_n (x := x3) (pc := 43) d_mo_isBarred_43 rfl ?_
          refine ev_ialdJ (v := (gI X 98 (Int32.toNatClampNeg x3))) (pc := 44) d_mo_isBarred_44 (ly_at hX 98 rfl) h_6.1 rfl ?_
          refine ev_aload_n (x := 55) (pc := 45) d_mo_isBarred_45 rfl ?_
          refine ev_getR (pc := 46) d_mo_isBarred_46 f_mo_147 (ly_at hX 55 rfl) gg_12 rfl (ly_rf hX 55 60 rfl) ?_
          refine ev_iload_n (x := x3) (pc := 49) d_mo_isBarred_49 rfl ?_
          refine ev_ialdJ (v := (gI X 99 (Int32.toNatClampNeg x3))) (pc := 50) d_mo_isBarred_50 (ly_at hX 99 rfl) h_6.1 rfl ?_
          refine ev_callS (z := m_mo_in) (as := [.int (gI X 55 44), .int (gI X 98 (Int32.toNatClampNeg x3)), .int (gI X 99 (Int32.toNatClampNeg x3))]) (rest := []) (pc := 51) d_mo_isBarred_51 l_mo_196 i_mo_in o_mo_in rfl rfl (Nat.le_of_ble_eq_true rfl) rfl (Nat.le_of_ble_eq_true rfl) ⟨Nat.le_of_ble_eq_true rfl, Nat.le_of_ble_eq_true rfl⟩ (s_mo_in hX (gI X 55 44) (gI X 98 (Int32.toNatClampNeg x3)) (gI X 99 (Int32.toNatClampNeg x3))) (fun r X1 hq => ?_)
          obtain ⟨rfl, rfl⟩ := hq
          show Ev E m_mo_isBarred 54 [(0, .ref 55), (1, .int x1), (2, .int x2), (3, .int x3)] [.int (bz (iw (gI X 55 44) (gI X 98 (Int32.toNatClampNeg x3)) (gI X 99 (Int32.toNatClampNeg x3))))] X (0, 0) Q
          refine ev_ifz_eq (pc := 54) (tgt := 61) d_mo_isBarred_54 (by decide) (fun c_13 => ?_) (fun c_13 => ?_)
          · have h_14 := h_12.1 c_13
            refine ev_iconst (v := 0) (pc := 61) d_mo_isBarred_61 kc_i_0 ?_
            refine ev_istore_n (L2 := [(0, .ref 55), (1, .int x1), (2, .int 0), (3, .int x3)]) (pc := 62) d_mo_isBarred_62 rfl (Nat.le_of_ble_eq_true rfl) rfl ?_
            refine ev_iinc (v := (x3 + 1)) (L2 := [(0, .ref 55), (1, .int x1), (2, .int 0), (3, .int (x3 + 1))]) (pc := 63) d_mo_isBarred_63 rfl (by rw [kc_i_1]) rfl (Nat.le_of_ble_eq_true rfl) rfl ?_
            refine ev_goto (pc := 66) (tgt := 4) d_mo_isBarred_66 (by decide) ?_
            exact h_14
          · have h_15 := h_12.2 c_13
            exact h_15
theorem b_mo_isBarred_57 {E : gp_E} {S : gp_S} {X : gp_H} {Q : Option Value → gp_H → Prop} {x1 : Int32} {x2 : Int32} {x3 : Int32} (hX : Lay S X)  (hh : Ev E m_mo_isBarred 4 [(0, .ref 55), (1, .int x1), (2, .int 1), (3, .int (x3 + 1))] [] X (0, 0) Q) : Ev E m_mo_isBarred 57 [(0, .ref 55), (1, .int x1), (2, .int x2), (3, .int x3)] [] X (0, 0) Q := by
  refine ev_iconst (v := 1) (pc := 57) d_mo_isBarred_57 kc_i_1 ?_
  refine ev_goto (pc := 58) (tgt := 62) d_mo_isBarred_58 (by decide) ?_
  refine ev_istore_n (L2 := [(0, .ref 55), (1, .int x1), (2, .int 1), (3, .int x3)]) (pc := 62) d_mo_isBarred_62 rfl (Nat.le_of_ble_eq_true rfl) rfl ?_
  refine ev_iinc (v := (x3 + 1)) (L2 := [(0, .ref 55), (1, .int x1), (2, .int 1), (3, .int (x3 + 1))]) (pc := 63) d_mo_isBarred_63 rfl (by rw [kc_i_1]) rfl (Nat.le_of_ble_eq_true rfl) rfl ?_
  refine ev_goto (pc := 66) (tgt := 4) d_mo_isBarred_66 (by decide) ?_
  exact hh
theorem b_mo_best_0 {E : gp_E} {S : gp_S} {X : gp_H} {Q : Option Value → gp_H → Prop}  (hX : Lay S X)  (hh : Ev E m_mo_best 13 [(0, .ref 55), (1, .int 0), (2, .int (((1 : Int32) <<< ((gI X 55 37) &&& 31)) - 1)), (3, .int 0)] [] X (0, 0) Q) : Ev E m_mo_best 0 [(0, .ref 55)] [] X (0, 0) Q := by
  refine ev_iconst (v := 0) (pc := 0) d_mo_best_0 kc_i_0 ?_
  refine ev_istore_n (L2 := [(0, .ref 55), (1, .int 0)]) (pc := 1) d_mo_best_1 rfl (Nat.le_of_ble_eq_true rfl) rfl ?_
  refine ev_iconst (v := 1) (pc := 2) d_mo_best_2 kc_i_1 ?_
  refine ev_aload_n (x := 55) (pc := 3) d_mo_best_3 rfl ?_
  refine ev_getJ (v := (gI X 55 37)) (pc := 4) d_mo_best_4 f_mo_206 (ly_at hX 55 rfl) gg_12 rfl rfl ?_
  refine ev_ishl (pc := 7) d_mo_best_7 ?_
  refine ev_iconst (v := 1) (pc := 8) d_mo_best_8 kc_i_1 ?_
  refine ev_isub (pc := 9) d_mo_best_9 ?_
  refine ev_istore_n (L2 := [(0, .ref 55), (1, .int 0), (2, .int (((1 : Int32) <<< ((gI X 55 37) &&& 31)) - 1))]) (pc := 10) d_mo_best_10 rfl (Nat.le_of_ble_eq_true rfl) rfl ?_
  refine ev_iconst (v := 0) (pc := 11) d_mo_best_11 kc_i_0 ?_
  refine ev_istore_n (L2 := [(0, .ref 55), (1, .int 0), (2, .int (((1 : Int32) <<< ((gI X 55 37) &&& 31)) - 1)), (3, .int 0)]) (pc := 12) d_mo_best_12 rfl (Nat.le_of_ble_eq_true rfl) rfl ?_
  exact hh
theorem b_mo_best_13 {E : gp_E} {S : gp_S} {X : gp_H} {Q : Option Value → gp_H → Prop} {x1 : Int32} {x2 : Int32} {x3 : Int32} (hX : Lay S X)  (hh : (((gI X 55 37) ≤ x3 → ((¬ x1 = x2 → Ev E m_mo_best 56 [(0, .ref 55), (1, .int x1), (2, .int x2), (3, .int x2)] [] X (0, 0) Q) ∧ (x1 = x2 → Q (some (.int (-3))) X))) ∧ (¬ (gI X 55 37) ≤ x3 → (vp_in x3 7 ∧ (((gI X 86 (Int32.toNatClampNeg x3)) = 0 → Ev E m_mo_best 13 [(0, .ref 55), (1, .int (x1 ||| 0)), (2, .int x2), (3, .int (x3 + 1))] [] X (0, 0) Q) ∧ (¬ (gI X 86 (Int32.toNatClampNeg x3)) = 0 → Ev E m_mo_best 13 [(0, .ref 55), (1, .int (x1 ||| ((1 : Int32) <<< (x3 &&& 31)))), (2, .int x2), (3, .int (x3 + 1))] [] X (0, 0) Q)))))) : Ev E m_mo_best 13 [(0, .ref 55), (1, .int x1), (2, .int x2), (3, .int x3)] [] X (0, 0) Q := by
  refine ev_iload_n (x := x3) (pc := 13) d_mo_best_13 rfl ?_
  refine ev_aload_n (x := 55) (pc := 14) d_mo_best_14 rfl ?_
  refine ev_getJ (v := (gI X 55 37)) (pc := 15) d_mo_best_15 f_mo_206 (ly_at hX 55 rfl) gg_12 rfl rfl ?_
  refine ev_icmp_ge (pc := 18) (tgt := 46) d_mo_best_18 (by decide) (fun c_1 => ?_) (fun c_1 => ?_)
  · have h_2 := hh.1 c_1
    refine ev_iload_n (x := x1) (pc := 46) d_mo_best_46 rfl ?_
    refine ev_iload_n (x := x2) (pc := 47) d_mo_best_47 rfl ?_
    refine ev_icmp_ne (pc := 48) (tgt := 54) d_mo_best_48 (by decide) (fun c_4 => ?_) (fun c_4 => ?_)
    · have h_5 := h_2.1 c_4
      refine ev_iload_n (x := x2) (pc := 54) d_mo_best_54 rfl ?_
      refine ev_istore_n (L2 := [(0, .ref 55), (1, .int x1), (2, .int x2), (3, .int x2)]) (pc := 55) d_mo_best_55 rfl (Nat.le_of_ble_eq_true rfl) rfl ?_
      exact h_5
    · have h_6 := h_2.2 c_4
      refine ev_bipush (v := (-3)) (pc := 51) d_mo_best_51 kc_b_m3 ?_
      exact ev_iret (pc := 53) ⟨Nat.le_of_ble_eq_true rfl, Nat.le_of_ble_eq_true rfl⟩ d_mo_best_53 rfl (vp_nar_int _) h_6
  · have h_3 := hh.2 c_1
    refine ev_iload_n (x := x1) (pc := 21) d_mo_best_21 rfl ?_
    refine ev_aload_n (x := 55) (pc := 22) d_mo_best_22 rfl ?_
    refine ev_getR (pc := 23) d_mo_best_23 f_mo_105 (ly_at hX 55 rfl) gg_12 rfl (ly_rf hX 55 39 rfl) ?_
    refine ev_iload_n (x := x3) (pc := 26) d_mo_best_26 rfl ?_
    refine ev_zaldJ (v := (gI X 86 (Int32.toNatClampNeg x3))) (pc := 27) d_mo_best_27 (ly_at hX 86 rfl) h_3.1 rfl ?_
    refine ev_if_eq (pc := 28) (tgt := 37) d_mo_best_28 (by decide) (fun c_7 => ?_) (fun c_7 => ?_)
    · have h_8 := h_3.2.1 c_7
      refine ev_iconst (v := 0) (pc := 37) d_mo_best_37 kc_i_0 ?_
      refine ev_ior (pc := 38) d_mo_best_38 ?_
      refine ev_istore_n (L2 := [(0, .ref 55), (1, .int (x1 ||| 0)), (2, .int x2), (3, .int x3)]) (pc := 39) d_mo_best_39 rfl (Nat.le_of_ble_eq_true rfl) rfl ?_
      refine ev_iinc (v := (x3 + 1)) (L2 := [(0, .ref 55), (1, .int (x1 ||| 0)), (2, .int x2), (3, .int (x3 + 1))]) (pc := 40) d_mo_best_40 rfl (by rw [kc_i_1]) rfl (Nat.le_of_ble_eq_true rfl) rfl ?_
      refine ev_goto (pc := 43) (tgt := 13) d_mo_best_43 (by decide) ?_
      exact h_8
    · have h_9 := h_3.2.2 c_7
      refine ev_iconst (v := 1) (pc := 31) d_mo_best_31 kc_i_1 ?_
      refine ev_iload_n (x := x3) (pc := 32) d_mo_best_32 rfl ?_
      refine ev_ishl (pc := 33) d_mo_best_33 ?_
      refine ev_goto (pc := 34) (tgt := 38) d_mo_best_34 (by decide) ?_
      refine ev_ior (pc := 38) d_mo_best_38 ?_
      refine ev_istore_n (L2 := [(0, .ref 55), (1, .int (x1 ||| ((1 : Int32) <<< (x3 &&& 31)))), (2, .int x2), (3, .int x3)]) (pc := 39) d_mo_best_39 rfl (Nat.le_of_ble_eq_true rfl) rfl ?_
      refine ev_iinc (v := (x3 + 1)) (L2 := [(0, .ref 55), (1, .int (x1 ||| ((1 : Int32) <<< (x3 &&& 31)))), (2, .int x2), (3, .int (x3 + 1))]) (pc := 40) d_mo_best_40 rfl (by rw [kc_i_1]) rfl (Nat.le_of_ble_eq_true rfl) rfl ?_
      refine ev_goto (pc := 43) (tgt := 13) d_mo_best_43 (by decide) ?_
      exact h_9
theorem b_mo_best_56 {E : gp_E} {S : gp_S} {X : gp_H} {Q : Option Value → gp_H → Prop} {x1 : Int32} {x2 : Int32} {x3 : Int32} (hX : Lay S X)  (hh : ((x3 < 0 → (vp_in x1 128 ∧ ((¬ (gI X 107 (Int32.toNatClampNeg x1)) = (-1) → Ev E m_mo_best 180 [(0, .ref 55), (1, .int x1), (2, .int x2), (3, .int x1)] [] (gp_sI X 55 42 0) (0, 0) Q) ∧ ((gI X 107 (Int32.toNatClampNeg x1)) = (-1) → Q (some (.int (-3))) X)))) ∧ (¬ x3 < 0 → ((¬ x3 = x2 → (vp_in x3 128 ∧ Ev E m_mo_best 79 [(0, .ref 55), (1, .int x1), (2, .int x2), (3, .int x3), (4, .int 0)] [] (gp_sI X 107 (Int32.toNatClampNeg x3) (-1)) (0, 0) Q)) ∧ (x3 = x2 → (vp_in x3 128 ∧ Ev E m_mo_best 79 [(0, .ref 55), (1, .int x1), (2, .int x2), (3, .int x3), (4, .int 0)] [] (gp_sI X 107 (Int32.toNatClampNeg x3) 0) (0, 0) Q)))))) : Ev E m_mo_best 56 [(0, .ref 55), (1, .int x1), (2, .int x2), (3, .int x3)] [] X (0, 0) Q := by
  refine ev_iload_n (x := x3) (pc := 56) d_mo_best_56 rfl ?_
  refine ev_if_lt (pc := 57) (tgt := 160) d_mo_best_57 (by decide) (fun c_1 => ?_) (fun c_1 => ?_)
  · have h_2 := hh.1 c_1
    refine ev_aload_n (x := 55) (pc := 160) d_mo_best_160 rfl ?_
    refine ev_getR (pc := 161) d_mo_best_161 f_mo_171 (ly_at hX 55 rfl) gg_12 rfl (ly_rf hX 55 70 rfl) ?_
    refine ev_iload_n (x := x1) (pc := 164) d_mo_best_164 rfl ?_
    refine ev_ialdJ (v := (gI X 107 (Int32.toNatClampNeg x1))) (pc := 165) d_mo_best_165 (ly_at hX 107 rfl) h_2.1 rfl ?_
    refine ev_iconst (v := (-1)) (pc := 166) d_mo_best_166 kc_i_m1 ?_
    refine ev_icmp_ne (pc := 167) (tgt := 173) d_mo_best_167 (by decide) (fun c_4 => ?_) (fun c_4 => ?_)
    · have h_5 := h_2.2.1 c_4
      refine ev_aload_n (x := 55) (pc := 173) d_mo_best_173 rfl ?_
      refine ev_iconst (v := 0) (pc := 174) d_mo_best_174 kc_i_0 ?_
      refine ev_putI (pc := 175) d_mo_best_175 f_mo_307 (ly_at hX 55 rfl) gg_12 rfl (Or.inl rfl) (vp_nar_int _) rfl ?_
      refine ev_iload_n (x := x1) (pc := 178) d_mo_best_178 rfl ?_
      refine ev_istore_n (L2 := [(0, .ref 55), (1, .int x1), (2, .int x2), (3, .int x1)]) (pc := 179) d_mo_best_179 rfl (Nat.le_of_ble_eq_true rfl) rfl ?_
      exact h_5
    · have h_6 := h_2.2.2 c_4
      refine ev_bipush (v := (-3)) (pc := 170) d_mo_best_170 kc_b_m3 ?_
      exact ev_iret (pc := 172) ⟨Nat.le_of_ble_eq_true rfl, Nat.le_of_ble_eq_true rfl⟩ d_mo_best_172 rfl (vp_nar_int _) h_6
  · have h_3 := hh.2 c_1
    refine ev_aload_n (x := 55) (pc := 60) d_mo_best_60 rfl ?_
    refine ev_getR (pc := 61) d_mo_best_61 f_mo_171 (ly_at hX 55 rfl) gg_12 rfl (ly_rf hX 55 70 rfl) ?_
    refine ev_iload_n (x := x3) (pc := 64) d_mo_best_64 rfl ?_
    refine ev_iload_n (x := x3) (pc := 65) d_mo_best_65 rfl ?_
    refine ev_iload_n (x := x2) (pc := 66) d_mo_best_66 rfl ?_
    refine ev_icmp_ne (pc := 67) (tgt := 74) d_mo_best_67 (by decide) (fun c_7 => ?_) (fun c_7 => ?_)
    · have h_8 := h_3.1 c_7
      refine ev_iconst (v := (-1)) (pc := 74) d_mo_best_74 kc_i_m1 ?_
      refine ev_iast (pc := 75) d_mo_best_75 (ly_at hX 107 rfl) h_8.1 ?_
      refine ev_iconst (v := 0) (pc := 76) d_mo_best_76 kc_i_0 ?_
      refine ev_istore (L2 := [(0, .ref 55), (1, .int x1), (2, .int x2), (3, .int x3), (4, .int 0)]) (pc := 77) d_mo_best_77 rfl (Nat.le_of_ble_eq_true rfl) rfl ?_
      exact h_8.2
    · have h_9 := h_3.2 c_7
      refine ev_iconst (v := 0) (pc := 70) d_mo_best_70 kc_i_0 ?_
      refine ev_goto (pc := 71) (tgt := 75) d_mo_best_71 (by decide) ?_
      refine ev_iast (pc := 75) d_mo_best_75 (ly_at hX 107 rfl) h_9.1 ?_
      refine ev_iconst (v := 0) (pc := 76) d_mo_best_76 kc_i_0 ?_
      refine ev_istore (L2 := [(0, .ref 55), (1, .int x1), (2, .int x2), (3, .int x3), (4, .int 0)]) (pc := 77) d_mo_best_77 rfl (Nat.le_of_ble_eq_true rfl) rfl ?_
      exact h_9.2
theorem b_mo_best_79 {E : gp_E} {S : gp_S} {X : gp_H} {Q : Option Value → gp_H → Prop} {x1 : Int32} {x2 : Int32} {x3 : Int32} {x4 : Int32} (hX : Lay S X)  (hh : (((gI X 55 37) ≤ x4 → Ev E m_mo_best 56 [(0, .ref 55), (1, .int x1), (2, .int x2), (3, .int (x3 + (-1)))] [] X (0, 0) Q) ∧ (¬ (gI X 55 37) ≤ x4 → ((¬ (x3 &&& x1) = x1 → Ev E m_mo_best 56 [(0, .ref 55), (1, .int x1), (2, .int x2), (3, .int (x3 + (-1)))] [] X (0, 0) Q) ∧ ((x3 &&& x1) = x1 → (∃ Qz_7, Ev E m_mo_onWith 0 [(0, .ref 55), (1, .int x3), (2, .int x4)] [] X (0, 0) Qz_7 ∧ ∀ r X_10, Qz_7 r X_10 → ∃ v_15 : Int32, r = some (.int v_15) ∧ Lay S X_10 ∧ ((v_15 = (-1) → Ev E m_mo_best 141 [(0, .ref 55), (1, .int x1), (2, .int x2), (3, .int x3), (4, .int x4), (5, .int v_15)] [.int x3, .ref 107] X_10 (0, 0) Q) ∧ (¬ v_15 = (-1) → (vp_in x3 128 ∧ (((gI X_10 107 (Int32.toNatClampNeg x3)) = (-1) → Ev E m_mo_best 136 [(0, .ref 55), (1, .int x1), (2, .int x2), (3, .int x3), (4, .int x4), (5, .int v_15)] [.int x3, .ref 107] X_10 (0, 0) Q) ∧ (¬ (gI X_10 107 (Int32.toNatClampNeg x3)) = (-1) → (((gI X_10 107 (Int32.toNatClampNeg x3)) ≤ v_15 → Ev E m_mo_best 141 [(0, .ref 55), (1, .int x1), (2, .int x2), (3, .int x3), (4, .int x4), (5, .int v_15)] [.int x3, .ref 107] X_10 (0, 0) Q) ∧ (¬ (gI X_10 107 (Int32.toNatClampNeg x3)) ≤ v_15 → Ev E m_mo_best 136 [(0, .ref 55), (1, .int x1), (2, .int x2), (3, .int x3), (4, .int x4), (5, .int v_15)] [.int x3, .ref 107] X_10 (0, 0) Q))))))))))))) : Ev E m_mo_best 79 [(0, .ref 55), (1, .int x1), (2, .int x2), (3, .int x3), (4, .int x4)] [] X (0, 0) Q := by
  refine ev_iload (x := x4) (pc := 79) d_mo_best_79 rfl ?_
  refine ev_aload_n (x := 55) (pc := 81) d_mo_best_81 rfl ?_
  refine ev_getJ (v := (gI X 55 37)) (pc := 82) d_mo_best_82 f_mo_206 (ly_at hX 55 rfl) gg_12 rfl rfl ?_
  refine ev_icmp_ge (pc := 85) (tgt := 154) d_mo_best_85 (by decide) (fun c_1 => ?_) (fun c_1 => ?_)
  · have h_2 := hh.1 c_1
    refine ev_iinc (v := (x3 + (-1))) (L2 := [(0, .ref 55), (1, .int x1), (2, .int x2), (3, .int (x3 + (-1))), (4, .int x4)]) (pc := 154) d_mo_best_154 rfl (by rw [kc_i_m1]) rfl (Nat.le_of_ble_eq_true rfl) rfl ?_
    refine ev_goto (pc := 157) (tgt := 56) d_mo_best_157 (by decide) ?_
    exact ev_sub [(0, .ref 55), (1, .int x1), (2, .int x2), (3, .int (x3 + (-1)))] (List.forall_mem_cons.mpr ⟨rfl, (List.forall_mem_cons.mpr ⟨rfl, (List.forall_mem_cons.mpr ⟨rfl, (List.forall_mem_cons.mpr ⟨rfl, (fun _ h => nomatch h)⟩)⟩)⟩)⟩) h_2
  · have h_3 := hh.2 c_1
    refine ev_iload_n (x := x3) (pc := 88) d_mo_best_88 rfl ?_
    refine ev_iload_n (x := x1) (pc := 89) d_mo_best_89 rfl ?_
    refine ev_iand (pc := 90) d_mo_best_90 ?_
    refine ev_iload_n (x := x1) (pc := 91) d_mo_best_91 rfl ?_
    refine ev_icmp_ne (pc := 92) (tgt := 154) d_mo_best_92 (by decide) (fun c_4 => ?_) (fun c_4 => ?_)
    · have h_5 := h_3.1 c_4
      refine ev_iinc (v := (x3 + (-1))) (L2 := [(0, .ref 55), (1, .int x1), (2, .int x2), (3, .int (x3 + (-1))), (4, .int x4)]) (pc := 154) d_mo_best_154 rfl (by rw [kc_i_m1]) rfl (Nat.le_of_ble_eq_true rfl) rfl ?_
      refine ev_goto (pc := 157) (tgt := 56) d_mo_best_157 (by decide) ?_
      exact ev_sub [(0, .ref 55), (1, .int x1), (2, .int x2), (3, .int (x3 + (-1)))] (List.forall_mem_cons.mpr ⟨rfl, (List.forall_mem_cons.mpr ⟨rfl, (List.forall_mem_cons.mpr ⟨rfl, (List.forall_mem_cons.mpr ⟨rfl, (fun _ h => nomatch h)⟩)⟩)⟩)⟩) h_5
    · have h_6 := h_3.2 c_4
      refine ev_aload_n (x := 55) (pc := 95) d_mo_best_95 rfl ?_
      refine ev_iload_n (x := x3) (pc := 96) d_mo_best_96 rfl ?_
      refine ev_iload (x := x4) (pc := 97) d_mo_best_97 rfl ?_
      obtain ⟨Qz_7, hc_8, hk_9⟩ := h_6
      refine ev_callV (z := m_mo_onWith) (as := [.int x3, .int x4]) (rest := []) (pc := 99) d_mo_best_99 (ly_at hX 55 rfl) lt13_12 rfl l_mo_304 i_mo_onWith v_mo_onWith o_mo_onWith rfl rfl (Nat.le_of_ble_eq_true rfl) rfl (Nat.le_of_ble_eq_true rfl) ⟨Nat.le_of_ble_eq_true rfl, Nat.le_of_ble_eq_true rfl⟩ hc_8 (fun r_11 X_10 hq_12 => ?_)
      obtain ⟨v_15, rfl, hX_14, h_13⟩ := hk_9 _ _ hq_12
      show Ev E m_mo_best 102 [(0, .ref 55), (1, .int x1), (2, .int x2), (3, .int x3), (4, .int x4)] [.int v_15] X_10 (0, 0) Q
      refine ev_istore (L2 := [(0, .ref 55), (1, .int x1), (2, .int x2), (3, .int x3), (4, .int x4), (5, .int v_15)]) (pc := 102) d_mo_best_102 rfl (Nat.le_of_ble_eq_true rfl) rfl ?_
      refine ev_aload_n (x := 55) (pc := 104) d_mo_best_104 rfl ?_
      refine ev_getR (pc := 105) d_mo_best_105 f_mo_171 (ly_at hX_14 55 rfl) gg_12 rfl (ly_rf hX_14 55 70 rfl) ?_
      refine ev_iload_n (x := x3) (pc := 108) d_mo_best_108 rfl ?_
      refine ev_iload (x := v_15) (pc := 109) d_mo_best_109 rfl ?_
      refine ev_iconst (v := (-1)) (pc := 111) d_mo_best_111 kc_i_m1 ?_
      refine ev_icmp_eq (pc := 112) (tgt := 141) d_mo_best_112 (by decide) (fun c_16 => ?_) (fun c_16 => ?_)
      · have h_17 := h_13.1 c_16
        exact h_17
      · have h_18 := h_13.2 c_16
        refine ev_aload_n (x := 55) (pc := 115) d_mo_best_115 rfl ?_
        refine ev_getR (pc := 116) d_mo_best_116 f_mo_171 (ly_at hX_14 55 rfl) gg_12 rfl (ly_rf hX_14 55 70 rfl) ?_
        refine ev_iload_n (x := x3) (pc := 119) d_mo_best_119 rfl ?_
        refine ev_ialdJ (v := (gI X_10 107 (Int32.toNatClampNeg x3))) (pc := 120) d_mo_best_120 (ly_at hX_14 107 rfl) h_18.1 rfl ?_
        refine ev_iconst (v := (-1)) (pc := 121) d_mo_best_121 kc_i_m1 ?_
        refine ev_icmp_eq (pc := 122) (tgt := 136) d_mo_best_122 (by decide) (fun c_19 => ?_) (fun c_19 => ?_)
        · have h_20 := h_18.2.1 c_19
          exact h_20
        · have h_21 := h_18.2.2 c_19
          refine ev_iload (x := v_15) (pc := 125) d_mo_best_125 rfl ?_
          refine ev_aload_n (x := 55) (pc := 127) d_mo_best_127 rfl ?_
          refine ev_getR (pc := 128) d_mo_best_128 f_mo_171 (ly_at hX_14 55 rfl) gg_12 rfl (ly_rf hX_14 55 70 rfl) ?_
          refine ev_iload_n (x := x3) (pc := 131) d_mo_best_131 rfl ?_
          refine ev_ialdJ (v := (gI X_10 107 (Int32.toNatClampNeg x3))) (pc := 132) d_mo_best_132 (ly_at hX_14 107 rfl) h_18.1 rfl ?_
          refine ev_icmp_ge (pc := 133) (tgt := 141) d_mo_best_133 (by decide) (fun c_22 => ?_) (fun c_22 => ?_)
          · have h_23 := h_21.1 c_22
            exact h_23
          · have h_24 := h_21.2 c_22
            exact h_24
theorem b_mo_best_136 {E : gp_E} {S : gp_S} {X : gp_H} {Q : Option Value → gp_H → Prop} {x1 : Int32} {x2 : Int32} {x3 : Int32} {x4 : Int32} {x5 : Int32} {t0 : Int32} (hX : Lay S X)  (hh : (vp_in t0 128 ∧ Ev E m_mo_best 79 [(0, .ref 55), (1, .int x1), (2, .int x2), (3, .int x3), (4, .int (x4 + 1))] [] (gp_sI X 107 (Int32.toNatClampNeg t0) x5) (0, 0) Q)) : Ev E m_mo_best 136 [(0, .ref 55), (1, .int x1), (2, .int x2), (3, .int x3), (4, .int x4), (5, .int x5)] [.int t0, .ref 107] X (0, 0) Q := by
  refine ev_iload (x := x5) (pc := 136) d_mo_best_136 rfl ?_
  refine ev_goto (pc := 138) (tgt := 147) d_mo_best_138 (by decide) ?_
  refine ev_iast (pc := 147) d_mo_best_147 (ly_at hX 107 rfl) hh.1 ?_
  refine ev_iinc (v := (x4 + 1)) (L2 := [(0, .ref 55), (1, .int x1), (2, .int x2), (3, .int x3), (4, .int (x4 + 1)), (5, .int x5)]) (pc := 148) d_mo_best_148 rfl (by rw [kc_i_1]) rfl (Nat.le_of_ble_eq_true rfl) rfl ?_
  refine ev_goto (pc := 151) (tgt := 79) d_mo_best_151 (by decide) ?_
  exact ev_sub [(0, .ref 55), (1, .int x1), (2, .int x2), (3, .int x3), (4, .int (x4 + 1))] (List.forall_mem_cons.mpr ⟨rfl, (List.forall_mem_cons.mpr ⟨rfl, (List.forall_mem_cons.mpr ⟨rfl, (List.forall_mem_cons.mpr ⟨rfl, (List.forall_mem_cons.mpr ⟨rfl, (fun _ h => nomatch h)⟩)⟩)⟩)⟩)⟩) hh.2
theorem b_mo_best_141 {E : gp_E} {S : gp_S} {X : gp_H} {Q : Option Value → gp_H → Prop} {x1 : Int32} {x2 : Int32} {x3 : Int32} {x4 : Int32} {x5 : Int32} {t0 : Int32} (hX : Lay S X)  (hh : (vp_in x3 128 ∧ (vp_in t0 128 ∧ Ev E m_mo_best 79 [(0, .ref 55), (1, .int x1), (2, .int x2), (3, .int x3), (4, .int (x4 + 1))] [] (gp_sI X 107 (Int32.toNatClampNeg t0) (gI X 107 (Int32.toNatClampNeg x3))) (0, 0) Q))) : Ev E m_mo_best 141 [(0, .ref 55), (1, .int x1), (2, .int x2), (3, .int x3), (4, .int x4), (5, .int x5)] [.int t0, .ref 107] X (0, 0) Q := by
  refine ev_aload_n (x := 55) (pc := 141) d_mo_best_141 rfl ?_
  refine ev_getR (pc := 142) d_mo_best_142 f_mo_171 (ly_at hX 55 rfl) gg_12 rfl (ly_rf hX 55 70 rfl) ?_
  refine ev_iload_n (x := x3) (pc := 145) d_mo_best_145 rfl ?_
  refine ev_ialdJ (v := (gI X 107 (Int32.toNatClampNeg x3))) (pc := 146) d_mo_best_146 (ly_at hX 107 rfl) hh.1 rfl ?_
  refine ev_iast (pc := 147) d_mo_best_147 (ly_at hX 107 rfl) hh.2.1 ?_
  refine ev_iinc (v := (x4 + 1)) (L2 := [(0, .ref 55), (1, .int x1), (2, .int x2), (3, .int x3), (4, .int (x4 + 1)), (5, .int x5)]) (pc := 148) d_mo_best_148 rfl (by rw [kc_i_1]) rfl (Nat.le_of_ble_eq_true rfl) rfl ?_
  refine ev_goto (pc := 151) (tgt := 79) d_mo_best_151 (by decide) ?_
  exact ev_sub [(0, .ref 55), (1, .int x1), (2, .int x2), (3, .int x3), (4, .int (x4 + 1))] (List.forall_mem_cons.mpr ⟨rfl, (List.forall_mem_cons.mpr ⟨rfl, (List.forall_mem_cons.mpr ⟨rfl, (List.forall_mem_cons.mpr ⟨rfl, (List.forall_mem_cons.mpr ⟨rfl, (fun _ h => nomatch h)⟩)⟩)⟩)⟩)⟩) hh.2.2
theorem b_mo_best_180 {E : gp_E} {S : gp_S} {X : gp_H} {Q : Option Value → gp_H → Prop} {x1 : Int32} {x2 : Int32} {x3 : Int32} (hX : Lay S X)  (hh : ((x3 = x2 → (vp_in x1 128 ∧ Q (some (.int (gI X 107 (Int32.toNatClampNeg x1)))) X)) ∧ (¬ x3 = x2 → Ev E m_mo_best 188 [(0, .ref 55), (1, .int x1), (2, .int x2), (3, .int x3), (4, .int 0)] [] X (0, 0) Q))) : Ev E m_mo_best 180 [(0, .ref 55), (1, .int x1), (2, .int x2), (3, .int x3)] [] X (0, 0) Q := by
  refine ev_iload_n (x := x3) (pc := 180) d_mo_best_180 rfl ?_
  refine ev_iload_n (x := x2) (pc := 181) d_mo_best_181 rfl ?_
  refine ev_icmp_eq (pc := 182) (tgt := 252) d_mo_best_182 (by decide) (fun c_1 => ?_) (fun c_1 => ?_)
  · have h_2 := hh.1 c_1
    refine ev_aload_n (x := 55) (pc := 252) d_mo_best_252 rfl ?_
    refine ev_getR (pc := 253) d_mo_best_253 f_mo_171 (ly_at hX 55 rfl) gg_12 rfl (ly_rf hX 55 70 rfl) ?_
    refine ev_iload_n (x := x1) (pc := 256) d_mo_best_256 rfl ?_
    refine ev_ialdJ (v := (gI X 107 (Int32.toNatClampNeg x1))) (pc := 257) d_mo_best_257 (ly_at hX 107 rfl) h_2.1 rfl ?_
    exact ev_iret (pc := 258) ⟨Nat.le_of_ble_eq_true rfl, Nat.le_of_ble_eq_true rfl⟩ d_mo_best_258 rfl (vp_nar_int _) h_2.2
  · have h_3 := hh.2 c_1
    refine ev_iconst (v := 0) (pc := 185) d_mo_best_185 kc_i_0 ?_
    refine ev_istore (L2 := [(0, .ref 55), (1, .int x1), (2, .int x2), (3, .int x3), (4, .int 0)]) (pc := 186) d_mo_best_186 rfl (Nat.le_of_ble_eq_true rfl) rfl ?_
    exact h_3
theorem b_mo_best_188 {E : gp_E} {S : gp_S} {X : gp_H} {Q : Option Value → gp_H → Prop} {x1 : Int32} {x2 : Int32} {x3 : Int32} {x4 : Int32} (hX : Lay S X)  (hh : (∃ Qz_1, Ev E m_mo_onWith 0 [(0, .ref 55), (1, .int x3), (2, .int x4)] [] X (0, 0) Qz_1 ∧ ∀ r X_4, Qz_1 r X_4 → ∃ v_9 : Int32, r = some (.int v_9) ∧ Lay S X_4 ∧ ((v_9 = (-1) → Ev E m_mo_best 188 [(0, .ref 55), (1, .int x1), (2, .int x2), (3, .int x3), (4, .int (x4 + 1))] [] X_4 (0, 0) Q) ∧ (¬ v_9 = (-1) → (∃ Qz_13, Ev E m_mo_onWith 0 [(0, .ref 55), (1, .int x3), (2, .int x4)] [] X_4 (0, 0) Qz_13 ∧ ∀ r X_16, Qz_13 r X_16 → ∃ v_21 : Int32, r = some (.int v_21) ∧ Lay S X_16 ∧ (vp_in x3 128 ∧ ((v_21 = (gI X_16 107 (Int32.toNatClampNeg x3)) → (vp_in (gI X_16 55 42) 7 ∧ Ev E m_mo_best 180 [(0, .ref 55), (1, .int x1), (2, .int x2), (3, .int (x3 ||| ((1 : Int32) <<< (x4 &&& 31))))] [] (gp_sI (gp_sI X_16 88 (Int32.toNatClampNeg (gI X_16 55 42)) x4) 55 42 ((gI X_16 55 42) + 1)) (0, 0) Q)) ∧ (¬ v_21 = (gI X_16 107 (Int32.toNatClampNeg x3)) → Ev E m_mo_best 188 [(0, .ref 55), (1, .int x1), (2, .int x2), (3, .int x3), (4, .int (x4 + 1))] [] X_16 (0, 0) Q)))))))) : Ev E m_mo_best 188 [(0, .ref 55), (1, .int x1), (2, .int x2), (3, .int x3), (4, .int x4)] [] X (0, 0) Q := by
  refine ev_aload_n (x := 55) (pc := 188) d_mo_best_188 rfl ?_
  refine ev_iload_n (x := x3) (pc := 189) d_mo_best_189 rfl ?_
  refine ev_iload (x := x4) (pc := 190) d_mo_best_190 rfl ?_
  obtain ⟨Qz_1, hc_2, hk_3⟩ := hh
  refine ev_callV (z := m_mo_onWith) (as := [.int x3, .int x4]) (rest := []) (pc := 192) d_mo_best_192 (ly_at hX 55 rfl) lt13_12 rfl l_mo_304 i_mo_onWith v_mo_onWith o_mo_onWith rfl rfl (Nat.le_of_ble_eq_true rfl) rfl (Nat.le_of_ble_eq_true rfl) ⟨Nat.le_of_ble_eq_true rfl, Nat.le_of_ble_eq_true rfl⟩ hc_2 (fun r_5 X_4 hq_6 => ?_)
  obtain ⟨v_9, rfl, hX_8, h_7⟩ := hk_3 _ _ hq_6
  show Ev E m_mo_best 195 [(0, .ref 55), (1, .int x1), (2, .int x2), (3, .int x3), (4, .int x4)] [.int v_9] X_4 (0, 0) Q
  refine ev_iconst (v := (-1)) (pc := 195) d_mo_best_195 kc_i_m1 ?_
  refine ev_icmp_eq (pc := 196) (tgt := 215) d_mo_best_196 (by decide) (fun c_10 => ?_) (fun c_10 => ?_)
  · have h_11 := h_7.1 c_10
    refine ev_iinc (v := (x4 + 1)) (L2 := [(0, .ref 55), (1, .int x1), (2, .int x2), (3, .int x3), (4, .int (x4 + 1))]) (pc := 215) d_mo_best_215 rfl (by rw [kc_i_1]) rfl (Nat.le_of_ble_eq_true rfl) rfl ?_
    refine ev_goto (pc := 218) (tgt := 188) d_mo_best_218 (by decide) ?_
    exact h_11
  · have h_12 := h_7.2 c_10
    refine ev_aload_n (x := 55) (pc := 199) d_mo_best_199 rfl ?_
    refine ev_iload_n (x := x3) (pc := 200) d_mo_best_200 rfl ?_
    refine ev_iload (x := x4) (pc := 201) d_mo_best_201 rfl ?_
    obtain ⟨Qz_13, hc_14, hk_15⟩ := h_12
    refine ev_callV (z := m_mo_onWith) (as := [.int x3, .int x4]) (rest := []) (pc := 203) d_mo_best_203 (ly_at hX_8 55 rfl) lt13_12 rfl l_mo_304 i_mo_onWith v_mo_onWith o_mo_onWith rfl rfl (Nat.le_of_ble_eq_true rfl) rfl (Nat.le_of_ble_eq_true rfl) ⟨Nat.le_of_ble_eq_true rfl, Nat.le_of_ble_eq_true rfl⟩ hc_14 (fun r_17 X_16 hq_18 => ?_)
    obtain ⟨v_21, rfl, hX_20, h_19⟩ := hk_15 _ _ hq_18
    show Ev E m_mo_best 206 [(0, .ref 55), (1, .int x1), (2, .int x2), (3, .int x3), (4, .int x4)] [.int v_21] X_16 (0, 0) Q
    refine ev_aload_n (x := 55) (pc := 206) d_mo_best_206 rfl ?_
    refine ev_getR (pc := 207) d_mo_best_207 f_mo_171 (ly_at hX_20 55 rfl) gg_12 rfl (ly_rf hX_20 55 70 rfl) ?_
    refine ev_iload_n (x := x3) (pc := 210) d_mo_best_210 rfl ?_
    refine ev_ialdJ (v := (gI X_16 107 (Int32.toNatClampNeg x3))) (pc := 211) d_mo_best_211 (ly_at hX_20 107 rfl) h_19.1 rfl ?_
    refine ev_icmp_eq (pc := 212) (tgt := 221) d_mo_best_212 (by decide) (fun c_22 => ?_) (fun c_22 => ?_)
    · have h_23 := h_19.2.1 c_22
      refine ev_aload_n (x := 55) (pc := 221) d_mo_best_221 rfl ?_
      refine ev_getR (pc := 222) d_mo_best_222 f_mo_111 (ly_at hX_20 55 rfl) gg_12 rfl (ly_rf hX_20 55 43 rfl) ?_
      refine ev_aload_n (x := 55) (pc := 225) d_mo_best_225 rfl ?_
      refine ev_getJ (v := (gI X_16 55 42)) (pc := 226) d_mo_best_226 f_mo_307 (ly_at hX_20 55 rfl) gg_12 rfl rfl ?_
      refine ev_iload (x := x4) (pc := 229) d_mo_best_229 rfl ?_
      refine ev_iast (pc := 231) d_mo_best_231 (ly_at hX_20 88 rfl) h_23.1 ?_
      refine ev_aload_n (x := 55) (pc := 232) d_mo_best_232 rfl ?_
      refine ev_dup (pc := 233) d_mo_best_233 rfl ?_
      refine ev_getJ (v := (gI X_16 55 42)) (pc := 234) d_mo_best_234 f_mo_307 (ly_at (ly_sI hX_20) 55 rfl) gg_12 rfl rfl ?_
      refine ev_iconst (v := 1) (pc := 237) d_mo_best_237 kc_i_1 ?_
      refine ev_iadd (pc := 238) d_mo_best_238 ?_
      refine ev_putI (pc := 239) d_mo_best_239 f_mo_307 (ly_at (ly_sI hX_20) 55 rfl) gg_12 rfl (Or.inl rfl) (vp_nar_int _) rfl ?_
      refine ev_iload_n (x := x3) (pc := 242) d_mo_best_242 rfl ?_
      refine ev_iconst (v := 1) (pc := 243) d_mo_best_243 kc_i_1 ?_
      refine ev_iload (x := x4) (pc := 244) d_mo_best_244 rfl ?_
      refine ev_ishl (pc := 246) d_mo_best_246 ?_
      refine ev_ior (pc := 247) d_mo_best_247 ?_
      refine ev_istore_n (L2 := [(0, .ref 55), (1, .int x1), (2, .int x2), (3, .int (x3 ||| ((1 : Int32) <<< (x4 &&& 31)))), (4, .int x4)]) (pc := 248) d_mo_best_248 rfl (Nat.le_of_ble_eq_true rfl) rfl ?_
      refine ev_goto (pc := 249) (tgt := 180) d_mo_best_249 (by decide) ?_
      exact ev_sub [(0, .ref 55), (1, .int x1), (2, .int x2), (3, .int (x3 ||| ((1 : Int32) <<< (x4 &&& 31))))] (List.forall_mem_cons.mpr ⟨rfl, (List.forall_mem_cons.mpr ⟨rfl, (List.forall_mem_cons.mpr ⟨rfl, (List.forall_mem_cons.mpr ⟨rfl, (fun _ h => nomatch h)⟩)⟩)⟩)⟩) h_23.2
    · have h_24 := h_19.2.2 c_22
      refine ev_iinc (v := (x4 + 1)) (L2 := [(0, .ref 55), (1, .int x1), (2, .int x2), (3, .int x3), (4, .int (x4 + 1))]) (pc := 215) d_mo_best_215 rfl (by rw [kc_i_1]) rfl (Nat.le_of_ble_eq_true rfl) rfl ?_
      refine ev_goto (pc := 218) (tgt := 188) d_mo_best_218 (by decide) ?_
      exact h_24
theorem b_mo_onWith_0 {E : gp_E} {S : gp_S} {X : gp_H} {Q : Option Value → gp_H → Prop} {x1 : Int32} {x2 : Int32} (hX : Lay S X)  (hh : (((gb x1 x2) = true → Q (some (.int (-1))) X) ∧ ((gb x1 x2) = false → (vp_in (x1 ||| ((1 : Int32) <<< (x2 &&& 31))) 128 ∧ ((¬ (gI X 107 (Int32.toNatClampNeg (x1 ||| ((1 : Int32) <<< (x2 &&& 31))))) = (-1) → (∃ Qz_7, Ev E m_mo_knotsOf 0 [(0, .ref 55), (1, .int (x1 ||| ((1 : Int32) <<< (x2 &&& 31))))] [] X (0, 0) Qz_7 ∧ ∀ r X_10, Qz_7 r X_10 → ∃ v_15 : Int32, r = some (.int v_15) ∧ Lay S X_10 ∧ (vp_in x2 7 ∧ (∃ Qz_16, Ev E m_mo_hinders 0 [(0, .ref 55), (1, .int v_15), (2, .int (gI X_10 85 (Int32.toNatClampNeg x2)))] [] X_10 (0, 0) Qz_16 ∧ ∀ r X_19, Qz_16 r X_19 → ∃ v_24 : Int32, r = some (.int v_24) ∧ Lay S X_19 ∧ ((v_24 = 0 → (∃ Qz_28, Ev E m_mo_borders 0 [(0, .ref 55), (1, .int v_15)] [] X_19 (0, 0) Qz_28 ∧ ∀ r X_31, Qz_28 r X_31 → ∃ v_36 : Int32, r = some (.int v_36) ∧ Lay S X_31 ∧ Q (some (.int (v_36 + (gI X_31 107 (Int32.toNatClampNeg (x1 ||| ((1 : Int32) <<< (x2 &&& 31)))))))) X_31)) ∧ (¬ v_24 = 0 → Q (some (.int (-1))) X_19)))))) ∧ ((gI X 107 (Int32.toNatClampNeg (x1 ||| ((1 : Int32) <<< (x2 &&& 31))))) = (-1) → Q (some (.int (-1))) X)))))) : Ev E m_mo_onWith 0 [(0, .ref 55), (1, .int x1), (2, .int x2)] [] X (0, 0) Q := by
  refine ev_iload_n (x := x1) (pc := 0) d_mo_onWith_0 rfl ?_
  refine ev_iload_n (x := x2) (pc := 1) d_mo_onWith_1 rfl ?_
  refine ev_callS (z := m_mo_has) (as := [.int x1, .int x2]) (rest := []) (pc := 2) d_mo_onWith_2 l_mo_222 i_mo_has o_mo_has rfl rfl (Nat.le_of_ble_eq_true rfl) rfl (Nat.le_of_ble_eq_true rfl) ⟨Nat.le_of_ble_eq_true rfl, Nat.le_of_ble_eq_true rfl⟩ (s_mo_has hX x1 x2) (fun r X1 hq => ?_)
  obtain ⟨rfl, rfl⟩ := hq
  show Ev E m_mo_onWith 5 [(0, .ref 55), (1, .int x1), (2, .int x2)] [.int (bz (gb x1 x2))] X (0, 0) Q
  refine ev_ifz_ne (pc := 5) (tgt := 22) d_mo_onWith_5 (by decide) (fun c_1 => ?_) (fun c_1 => ?_)
  · have h_2 := hh.1 c_1
    refine ev_iconst (v := (-1)) (pc := 22) d_mo_onWith_22 kc_i_m1 ?_
    exact ev_iret (pc := 23) ⟨Nat.le_of_ble_eq_true rfl, Nat.le_of_ble_eq_true rfl⟩ d_mo_onWith_23 rfl (vp_nar_int _) h_2
  · have h_3 := hh.2 c_1
    refine ev_aload_n (x := 55) (pc := 8) d_mo_onWith_8 rfl ?_
    refine ev_getR (pc := 9) d_mo_onWith_9 f_mo_171 (ly_at hX 55 rfl) gg_12 rfl (ly_rf hX 55 70 rfl) ?_
    refine ev_iload_n (x := x1) (pc := 12) d_mo_onWith_12 rfl ?_
    refine ev_iconst (v := 1) (pc := 13) d_mo_onWith_13 kc_i_1 ?_
    refine ev_iload_n (x := x2) (pc := 14) d_mo_onWith_14 rfl ?_
    refine ev_ishl (pc := 15) d_mo_onWith_15 ?_
    refine ev_ior (pc := 16) d_mo_onWith_16 ?_
    refine ev_ialdJ (v := (gI X 107 (Int32.toNatClampNeg (x1 ||| ((1 : Int32) <<< (x2 &&& 31)))))) (pc := 17) d_mo_onWith_17 (ly_at hX 107 rfl) h_3.1 rfl ?_
    refine ev_iconst (v := (-1)) (pc := 18) d_mo_onWith_18 kc_i_m1 ?_
    refine ev_icmp_ne (pc := 19) (tgt := 24) d_mo_onWith_19 (by decide) (fun c_4 => ?_) (fun c_4 => ?_)
    · have h_5 := h_3.2.1 c_4
      refine ev_aload_n (x := 55) (pc := 24) d_mo_onWith_24 rfl ?_
      refine ev_iload_n (x := x1) (pc := 25) d_mo_onWith_25 rfl ?_
      refine ev_iconst (v := 1) (pc := 26) d_mo_onWith_26 kc_i_1 ?_
      refine ev_iload_n (x := x2) (pc := 27) d_mo_onWith_27 rfl ?_
      refine ev_ishl (pc := 28) d_mo_onWith_28 ?_
      refine ev_ior (pc := 29) d_mo_onWith_29 ?_
      obtain ⟨Qz_7, hc_8, hk_9⟩ := h_5
      refine ev_callV (z := m_mo_knotsOf) (as := [.int (x1 ||| ((1 : Int32) <<< (x2 &&& 31)))]) (rest := []) (pc := 30) d_mo_onWith_30 (ly_at hX 55 rfl) lt13_12 rfl l_mo_298 i_mo_knotsOf v_mo_knotsOf o_mo_knotsOf rfl rfl (Nat.le_of_ble_eq_true rfl) rfl (Nat.le_of_ble_eq_true rfl) ⟨Nat.le_of_ble_eq_true rfl, Nat.le_of_ble_eq_true rfl⟩ hc_8 (fun r_11 X_10 hq_12 => ?_)
      obtain ⟨v_15, rfl, hX_14, h_13⟩ := hk_9 _ _ hq_12
      show Ev E m_mo_onWith 33 [(0, .ref 55), (1, .int x1), (2, .int x2)] [.int v_15] X_10 (0, 0) Q
      refine ev_istore_n (L2 := [(0, .ref 55), (1, .int x1), (2, .int x2), (3, .int v_15)]) (pc := 33) d_mo_onWith_33 rfl (Nat.le_of_ble_eq_true rfl) rfl ?_
      refine ev_aload_n (x := 55) (pc := 34) d_mo_onWith_34 rfl ?_
      refine ev_iload_n (x := v_15) (pc := 35) d_mo_onWith_35 rfl ?_
      refine ev_aload_n (x := 55) (pc := 36) d_mo_onWith_36 rfl ?_
      refine ev_getR (pc := 37) d_mo_onWith_37 f_mo_102 (ly_at hX_14 55 rfl) gg_12 rfl (ly_rf hX_14 55 38 rfl) ?_
      refine ev_iload_n (x := x2) (pc := 40) d_mo_onWith_40 rfl ?_
      refine ev_ialdJ (v := (gI X_10 85 (Int32.toNatClampNeg x2))) (pc := 41) d_mo_onWith_41 (ly_at hX_14 85 rfl) h_13.1 rfl ?_
      obtain ⟨Qz_16, hc_17, hk_18⟩ := h_13.2
      refine ev_callV (z := m_mo_hinders) (as := [.int v_15, .int (gI X_10 85 (Int32.toNatClampNeg x2))]) (rest := []) (pc := 42) d_mo_onWith_42 (ly_at hX_14 55 rfl) lt13_12 rfl l_mo_289 i_mo_hinders v_mo_hinders o_mo_hinders rfl rfl (Nat.le_of_ble_eq_true rfl) rfl (Nat.le_of_ble_eq_true rfl) ⟨Nat.le_of_ble_eq_true rfl, Nat.le_of_ble_eq_true rfl⟩ hc_17 (fun r_20 X_19 hq_21 => ?_)
      obtain ⟨v_24, rfl, hX_23, h_22⟩ := hk_18 _ _ hq_21
      show Ev E m_mo_onWith 45 [(0, .ref 55), (1, .int x1), (2, .int x2), (3, .int v_15)] [.int v_24] X_19 (0, 0) Q
      refine ev_if_eq (pc := 45) (tgt := 52) d_mo_onWith_45 (by decide) (fun c_25 => ?_) (fun c_25 => ?_)
      · have h_26 := h_22.1 c_25
        refine ev_aload_n (x := 55) (pc := 52) d_mo_onWith_52 rfl ?_
        refine ev_iload_n (x := v_15) (pc := 53) d_mo_onWith_53 rfl ?_
        obtain ⟨Qz_28, hc_29, hk_30⟩ := h_26
        refine ev_callV (z := m_mo_borders) (as := [.int v_15]) (rest := []) (pc := 54) d_mo_onWith_54 (ly_at hX_23 55 rfl) lt13_12 rfl l_mo_301 i_mo_borders v_mo_borders o_mo_borders rfl rfl (Nat.le_of_ble_eq_true rfl) rfl (Nat.le_of_ble_eq_true rfl) ⟨Nat.le_of_ble_eq_true rfl, Nat.le_of_ble_eq_true rfl⟩ hc_29 (fun r_32 X_31 hq_33 => ?_)
        obtain ⟨v_36, rfl, hX_35, h_34⟩ := hk_30 _ _ hq_33
        show Ev E m_mo_onWith 57 [(0, .ref 55), (1, .int x1), (2, .int x2), (3, .int v_15)] [.int v_36] X_31 (0, 0) Q
        refine ev_aload_n (x := 55) (pc := 57) d_mo_onWith_57 rfl ?_
        refine ev_getR (pc := 58) d_mo_onWith_58 f_mo_171 (ly_at hX_35 55 rfl) gg_12 rfl (ly_rf hX_35 55 70 rfl) ?_
        refine ev_iload_n (x := x1) (pc := 61) d_mo_onWith_61 rfl ?_
        refine ev_iconst (v := 1) (pc := 62) d_mo_onWith_62 kc_i_1 ?_
        refine ev_iload_n (x := x2) (pc := 63) d_mo_onWith_63 rfl ?_
        refine ev_ishl (pc := 64) d_mo_onWith_64 ?_
        refine ev_ior (pc := 65) d_mo_onWith_65 ?_
        refine ev_ialdJ (v := (gI X_31 107 (Int32.toNatClampNeg (x1 ||| ((1 : Int32) <<< (x2 &&& 31)))))) (pc := 66) d_mo_onWith_66 (ly_at hX_35 107 rfl) h_3.1 rfl ?_
        refine ev_iadd (pc := 67) d_mo_onWith_67 ?_
        exact ev_iret (pc := 68) ⟨Nat.le_of_ble_eq_true rfl, Nat.le_of_ble_eq_true rfl⟩ d_mo_onWith_68 rfl (vp_nar_int _) h_34
      · have h_27 := h_22.2 c_25
        refine ev_iconst (v := (-1)) (pc := 48) d_mo_onWith_48 kc_i_m1 ?_
        refine ev_goto (pc := 49) (tgt := 68) d_mo_onWith_49 (by decide) ?_
        exact ev_iret (pc := 68) ⟨Nat.le_of_ble_eq_true rfl, Nat.le_of_ble_eq_true rfl⟩ d_mo_onWith_68 rfl (vp_nar_int _) h_27
    · have h_6 := h_3.2.2 c_4
      refine ev_iconst (v := (-1)) (pc := 22) d_mo_onWith_22 kc_i_m1 ?_
      exact ev_iret (pc := 23) ⟨Nat.le_of_ble_eq_true rfl, Nat.le_of_ble_eq_true rfl⟩ d_mo_onWith_23 rfl (vp_nar_int _) h_6
theorem b_mo_knotsOf_0 {E : gp_E} {S : gp_S} {X : gp_H} {Q : Option Value → gp_H → Prop} {x1 : Int32} (hX : Lay S X)  (hh : Ev E m_mo_knotsOf 4 [(0, .ref 55), (1, .int x1), (2, .int 0), (3, .int 0)] [] X (0, 0) Q) : Ev E m_mo_knotsOf 0 [(0, .ref 55), (1, .int x1)] [] X (0, 0) Q := by
  refine ev_iconst (v := 0) (pc := 0) d_mo_knotsOf_0 kc_i_0 ?_
  refine ev_istore_n (L2 := [(0, .ref 55), (1, .int x1), (2, .int 0)]) (pc := 1) d_mo_knotsOf_1 rfl (Nat.le_of_ble_eq_true rfl) rfl ?_
  refine ev_iconst (v := 0) (pc := 2) d_mo_knotsOf_2 kc_i_0 ?_
  refine ev_istore_n (L2 := [(0, .ref 55), (1, .int x1), (2, .int 0), (3, .int 0)]) (pc := 3) d_mo_knotsOf_3 rfl (Nat.le_of_ble_eq_true rfl) rfl ?_
  exact hh
theorem b_mo_knotsOf_4 {E : gp_E} {S : gp_S} {X : gp_H} {Q : Option Value → gp_H → Prop} {x1 : Int32} {x2 : Int32} {x3 : Int32} (hX : Lay S X)  (hh : (((gI X 55 37) ≤ x3 → Q (some (.int x2)) X) ∧ (¬ (gI X 55 37) ≤ x3 → (((gb x1 x3) = false → Ev E m_mo_knotsOf 4 [(0, .ref 55), (1, .int x1), (2, .int (x2 ||| 0)), (3, .int (x3 + 1))] [] X (0, 0) Q) ∧ ((gb x1 x3) = true → (vp_in x3 7 ∧ Ev E m_mo_knotsOf 4 [(0, .ref 55), (1, .int x1), (2, .int (x2 ||| (gI X 85 (Int32.toNatClampNeg x3)))), (3, .int (x3 + 1))] [] X (0, 0) Q)))))) : Ev E m_mo_knotsOf 4 [(0, .ref 55), (1, .int x1), (2, .int x2), (3, .int x3)] [] X (0, 0) Q := by
  refine ev_iload_n (x := x3) (pc := 4) d_mo_knotsOf_4 rfl ?_
  refine ev_aload_n (x := 55) (pc := 5) d_mo_knotsOf_5 rfl ?_
  refine ev_getJ (v := (gI X 55 37)) (pc := 6) d_mo_knotsOf_6 f_mo_206 (ly_at hX 55 rfl) gg_12 rfl rfl ?_
  refine ev_icmp_ge (pc := 9) (tgt := 39) d_mo_knotsOf_9 (by decide) (fun c_1 => ?_) (fun c_1 => ?_)
  · have h_2 := hh.1 c_1
    refine ev_iload_n (x := x2) (pc := 39) d_mo_knotsOf_39 rfl ?_
    exact ev_iret (pc := 40) ⟨Nat.le_of_ble_eq_true rfl, Nat.le_of_ble_eq_true rfl⟩ d_mo_knotsOf_40 rfl (vp_nar_int _) h_2
  · have h_3 := hh.2 c_1
    refine ev_iload_n (x := x2) (pc := 12) d_mo_knotsOf_12 rfl ?_
    refine ev_iload_n (x := x1) (pc := 13) d_mo_knotsOf_13 rfl ?_
    refine ev_iload_n (x := x3) (pc := 14) d_mo_knotsOf_14 rfl ?_
    refine ev_callS (z := m_mo_has) (as := [.int x1, .int x3]) (rest := [.int x2]) (pc := 15) d_mo_knotsOf_15 l_mo_222 i_mo_has o_mo_has rfl rfl (Nat.le_of_ble_eq_true rfl) rfl (Nat.le_of_ble_eq_true rfl) ⟨Nat.le_of_ble_eq_true rfl, Nat.le_of_ble_eq_true rfl⟩ (s_mo_has hX x1 x3) (fun r X1 hq => ?_)
    obtain ⟨rfl, rfl⟩ := hq
    show Ev E m_mo_knotsOf 18 [(0, .ref 55), (1, .int x1), (2, .int x2), (3, .int x3)] [.int (bz (gb x1 x3)), .int x2] X (0, 0) Q
    refine ev_ifz_eq (pc := 18) (tgt := 30) d_mo_knotsOf_18 (by decide) (fun c_4 => ?_) (fun c_4 => ?_)
    · have h_5 := h_3.1 c_4
      refine ev_iconst (v := 0) (pc := 30) d_mo_knotsOf_30 kc_i_0 ?_
      refine ev_ior (pc := 31) d_mo_knotsOf_31 ?_
      refine ev_istore_n (L2 := [(0, .ref 55), (1, .int x1), (2, .int (x2 ||| 0)), (3, .int x3)]) (pc := 32) d_mo_knotsOf_32 rfl (Nat.le_of_ble_eq_true rfl) rfl ?_
      refine ev_iinc (v := (x3 + 1)) (L2 := [(0, .ref 55), (1, .int x1), (2, .int (x2 ||| 0)), (3, .int (x3 + 1))]) (pc := 33) d_mo_knotsOf_33 rfl (by rw [kc_i_1]) rfl (Nat.le_of_ble_eq_true rfl) rfl ?_
      refine ev_goto (pc := 36) (tgt := 4) d_mo_knotsOf_36 (by decide) ?_
      exact h_5
    · have h_6 := h_3.2 c_4
      refine ev_aload_n (x := 55) (pc := 21) d_mo_knotsOf_21 rfl ?_
      refine ev_getR (pc := 22) d_mo_knotsOf_22 f_mo_102 (ly_at hX 55 rfl) gg_12 rfl (ly_rf hX 55 38 rfl) ?_
      refine ev_iload_n (x := x3) (pc := 25) d_mo_knotsOf_25 rfl ?_
      refine ev_ialdJ (v := (gI X 85 (Int32.toNatClampNeg x3))) (pc := 26) d_mo_knotsOf_26 (ly_at hX 85 rfl) h_6.1 rfl ?_
      refine ev_goto (pc := 27) (tgt := 31) d_mo_knotsOf_27 (by decide) ?_
      refine ev_ior (pc := 31) d_mo_knotsOf_31 ?_
      refine ev_istore_n (L2 := [(0, .ref 55), (1, .int x1), (2, .int (x2 ||| (gI X 85 (Int32.toNatClampNeg x3)))), (3, .int x3)]) (pc := 32) d_mo_knotsOf_32 rfl (Nat.le_of_ble_eq_true rfl) rfl ?_
      refine ev_iinc (v := (x3 + 1)) (L2 := [(0, .ref 55), (1, .int x1), (2, .int (x2 ||| (gI X 85 (Int32.toNatClampNeg x3)))), (3, .int (x3 + 1))]) (pc := 33) d_mo_knotsOf_33 rfl (by rw [kc_i_1]) rfl (Nat.le_of_ble_eq_true rfl) rfl ?_
      refine ev_goto (pc := 36) (tgt := 4) d_mo_knotsOf_36 (by decide) ?_
      exact h_6.2
theorem b_mo_borders_0 {E : gp_E} {S : gp_S} {X : gp_H} {Q : Option Value → gp_H → Prop} {x1 : Int32} (hX : Lay S X)  (hh : Ev E m_mo_borders 4 [(0, .ref 55), (1, .int x1), (2, .int 0), (3, .int 0)] [] X (0, 0) Q) : Ev E m_mo_borders 0 [(0, .ref 55), (1, .int x1)] [] X (0, 0) Q := by
  refine ev_iconst (v := 0) (pc := 0) d_mo_borders_0 kc_i_0 ?_
  refine ev_istore_n (L2 := [(0, .ref 55), (1, .int x1), (2, .int 0)]) (pc := 1) d_mo_borders_1 rfl (Nat.le_of_ble_eq_true rfl) rfl ?_
  refine ev_iconst (v := 0) (pc := 2) d_mo_borders_2 kc_i_0 ?_
  refine ev_istore_n (L2 := [(0, .ref 55), (1, .int x1), (2, .int 0), (3, .int 0)]) (pc := 3) d_mo_borders_3 rfl (Nat.le_of_ble_eq_true rfl) rfl ?_
  exact hh
theorem b_mo_borders_4 {E : gp_E} {S : gp_S} {X : gp_H} {Q : Option Value → gp_H → Prop} {x1 : Int32} {x2 : Int32} {x3 : Int32} (hX : Lay S X)  (hh : (((gI X 55 1) ≤ x3 → Q (some (.int x2)) X) ∧ (¬ (gI X 55 1) ≤ x3 → (∃ Qz_4, Ev E m_mo_isBorder 0 [(0, .ref 55), (1, .int x3), (2, .int x1)] [] X (0, 0) Qz_4 ∧ ∀ r X_7, Qz_4 r X_7 → ∃ v_12 : Int32, r = some (.int v_12) ∧ Lay S X_7 ∧ ((v_12 = 0 → Ev E m_mo_borders 4 [(0, .ref 55), (1, .int x1), (2, .int (x2 + 0)), (3, .int (x3 + 1))] [] X_7 (0, 0) Q) ∧ (¬ v_12 = 0 → Ev E m_mo_borders 4 [(0, .ref 55), (1, .int x1), (2, .int (x2 + 1)), (3, .int (x3 + 1))] [] X_7 (0, 0) Q)))))) : Ev E m_mo_borders 4 [(0, .ref 55), (1, .int x1), (2, .int x2), (3, .int x3)] [] X (0, 0) Q := by
  refine ev_iload_n (x := x3) (pc := 4) d_mo_borders_4 rfl ?_
  refine ev_aload_n (x := 55) (pc := 5) d_mo_borders_5 rfl ?_
  refine ev_getJ (v := (gI X 55 1)) (pc := 6) d_mo_borders_6 f_mo_216 (ly_at hX 55 rfl) gg_12 rfl rfl ?_
  refine ev_icmp_ge (pc := 9) (tgt := 35) d_mo_borders_9 (by decide) (fun c_1 => ?_) (fun c_1 => ?_)
  · have h_2 := hh.1 c_1
    refine ev_iload_n (x := x2) (pc := 35) d_mo_borders_35 rfl ?_
    exact ev_iret (pc := 36) ⟨Nat.le_of_ble_eq_true rfl, Nat.le_of_ble_eq_true rfl⟩ d_mo_borders_36 rfl (vp_nar_int _) h_2
  · have h_3 := hh.2 c_1
    refine ev_iload_n (x := x2) (pc := 12) d_mo_borders_12 rfl ?_
    refine ev_aload_n (x := 55) (pc := 13) d_mo_borders_13 rfl ?_
    refine ev_iload_n (x := x3) (pc := 14) d_mo_borders_14 rfl ?_
    refine ev_iload_n (x := x1) (pc := 15) d_mo_borders_15 rfl ?_
    obtain ⟨Qz_4, hc_5, hk_6⟩ := h_3
    refine ev_callV (z := m_mo_isBorder) (as := [.int x3, .int x1]) (rest := [.int x2]) (pc := 16) d_mo_borders_16 (ly_at hX 55 rfl) lt13_12 rfl l_mo_280 i_mo_isBorder v_mo_isBorder o_mo_isBorder rfl rfl (Nat.le_of_ble_eq_true rfl) rfl (Nat.le_of_ble_eq_true rfl) ⟨Nat.le_of_ble_eq_true rfl, Nat.le_of_ble_eq_true rfl⟩ hc_5 (fun r_8 X_7 hq_9 => ?_)
    obtain ⟨v_12, rfl, hX_11, h_10⟩ := hk_6 _ _ hq_9
    show Ev E m_mo_borders 19 [(0, .ref 55), (1, .int x1), (2, .int x2), (3, .int x3)] [.int v_12, .int x2] X_7 (0, 0) Q
    refine ev_if_eq (pc := 19) (tgt := 26) d_mo_borders_19 (by decide) (fun c_13 => ?_) (fun c_13 => ?_)
    · have h_14 := h_10.1 c_13
      refine ev_iconst (v := 0) (pc := 26) d_mo_borders_26 kc_i_0 ?_
      refine ev_iadd (pc := 27) d_mo_borders_27 ?_
      refine ev_istore_n (L2 := [(0, .ref 55), (1, .int x1), (2, .int (x2 + 0)), (3, .int x3)]) (pc := 28) d_mo_borders_28 rfl (Nat.le_of_ble_eq_true rfl) rfl ?_
      refine ev_iinc (v := (x3 + 1)) (L2 := [(0, .ref 55), (1, .int x1), (2, .int (x2 + 0)), (3, .int (x3 + 1))]) (pc := 29) d_mo_borders_29 rfl (by rw [kc_i_1]) rfl (Nat.le_of_ble_eq_true rfl) rfl ?_
      refine ev_goto (pc := 32) (tgt := 4) d_mo_borders_32 (by decide) ?_
      exact h_14
    · have h_15 := h_10.2 c_13
      refine ev_iconst (v := 1) (pc := 22) d_mo_borders_22 kc_i_1 ?_
      refine ev_goto (pc := 23) (tgt := 27) d_mo_borders_23 (by decide) ?_
      refine ev_iadd (pc := 27) d_mo_borders_27 ?_
      refine ev_istore_n (L2 := [(0, .ref 55), (1, .int x1), (2, .int (x2 + 1)), (3, .int x3)]) (pc := 28) d_mo_borders_28 rfl (Nat.le_of_ble_eq_true rfl) rfl ?_
      refine ev_iinc (v := (x3 + 1)) (L2 := [(0, .ref 55), (1, .int x1), (2, .int (x2 + 1)), (3, .int (x3 + 1))]) (pc := 29) d_mo_borders_29 rfl (by rw [kc_i_1]) rfl (Nat.le_of_ble_eq_true rfl) rfl ?_
      refine ev_goto (pc := 32) (tgt := 4) d_mo_borders_32 (by decide) ?_
      exact h_15
theorem b_mo_bestAt_0 {E : gp_E} {S : gp_S} {X : gp_H} {Q : Option Value → gp_H → Prop} {x1 : Int32} (hX : Lay S X)  (hh : (((iw x1 0 ((gI X 55 42) - 1)) = false → Q (some (.int (-1))) X) ∧ ((iw x1 0 ((gI X 55 42) - 1)) = true → (vp_in x1 7 ∧ Q (some (.int (gI X 88 (Int32.toNatClampNeg x1)))) X)))) : Ev E m_mo_bestAt 0 [(0, .ref 55), (1, .int x1)] [] X (0, 0) Q := by
  refine ev_iload_n (x := x1) (pc := 0) d_mo_bestAt_0 rfl ?_
  refine ev_iconst (v := 0) (pc := 1) d_mo_bestAt_1 kc_i_0 ?_
  refine ev_aload_n (x := 55) (pc := 2) d_mo_bestAt_2 rfl ?_
  refine ev_getJ (v := (gI X 55 42)) (pc := 3) d_mo_bestAt_3 f_mo_307 (ly_at hX 55 rfl) gg_12 rfl rfl ?_
  refine ev_iconst (v := 1) (pc := 6) d_mo_bestAt_6 kc_i_1 ?_
  refine ev_isub (pc := 7) d_mo_bestAt_7 ?_
  refine ev_callS (z := m_mo_in) (as := [.int x1, .int 0, .int ((gI X 55 42) - 1)]) (rest := []) (pc := 8) d_mo_bestAt_8 l_mo_196 i_mo_in o_mo_in rfl rfl (Nat.le_of_ble_eq_true rfl) rfl (Nat.le_of_ble_eq_true rfl) ⟨Nat.le_of_ble_eq_true rfl, Nat.le_of_ble_eq_true rfl⟩ (s_mo_in hX x1 0 ((gI X 55 42) - 1)) (fun r X1 hq => ?_)
  obtain ⟨rfl, rfl⟩ := hq
  show Ev E m_mo_bestAt 11 [(0, .ref 55), (1, .int x1)] [.int (bz (iw x1 0 ((gI X 55 42) - 1)))] X (0, 0) Q
  refine ev_ifz_eq (pc := 11) (tgt := 23) d_mo_bestAt_11 (by decide) (fun c_1 => ?_) (fun c_1 => ?_)
  · have h_2 := hh.1 c_1
    refine ev_iconst (v := (-1)) (pc := 23) d_mo_bestAt_23 kc_i_m1 ?_
    exact ev_iret (pc := 24) ⟨Nat.le_of_ble_eq_true rfl, Nat.le_of_ble_eq_true rfl⟩ d_mo_bestAt_24 rfl (vp_nar_int _) h_2
  · have h_3 := hh.2 c_1
    refine ev_aload_n (x := 55) (pc := 14) d_mo_bestAt_14 rfl ?_
    refine ev_getR (pc := 15) d_mo_bestAt_15 f_mo_111 (ly_at hX 55 rfl) gg_12 rfl (ly_rf hX 55 43 rfl) ?_
    refine ev_iload_n (x := x1) (pc := 18) d_mo_bestAt_18 rfl ?_
    refine ev_ialdJ (v := (gI X 88 (Int32.toNatClampNeg x1))) (pc := 19) d_mo_bestAt_19 (ly_at hX 88 rfl) h_3.1 rfl ?_
    refine ev_goto (pc := 20) (tgt := 24) d_mo_bestAt_20 (by decide) ?_
    exact ev_iret (pc := 24) ⟨Nat.le_of_ble_eq_true rfl, Nat.le_of_ble_eq_true rfl⟩ d_mo_bestAt_24 rfl (vp_nar_int _) h_3.2
theorem b_mo_plan_0 {E : gp_E} {S : gp_S} {X : gp_H} {Q : Option Value → gp_H → Prop} {x1 : Int32} (hX : Lay S X)  (hh : (((iw x1 0 ((gI X 55 37) - 1)) = true → (vp_in x1 7 ∧ ((¬ (gI X 86 (Int32.toNatClampNeg x1)) = 0 → Q (some (.int (-3))) X) ∧ ((gI X 86 (Int32.toNatClampNeg x1)) = 0 → (∃ Qz_7, Ev E m_mo_placeInPlan 0 [(0, .ref 55), (1, .int x1)] [] X (0, 0) Qz_7 ∧ ∀ r X_10, Qz_7 r X_10 → ∃ v_15 : Int32, r = some (.int v_15) ∧ Lay S X_10 ∧ ((v_15 = (-1) → (vp_in (gI X_10 55 40) 7 ∧ Q (some (.int ((gI X_10 55 40) + 1))) (gp_sI (gp_sI X_10 87 (Int32.toNatClampNeg (gI X_10 55 40)) x1) 55 40 ((gI X_10 55 40) + 1)))) ∧ (¬ v_15 = (-1) → Q (some (.int (-3))) X_10))))))) ∧ ((iw x1 0 ((gI X 55 37) - 1)) = false → Q (some (.int (-1))) X))) : Ev E m_mo_plan 0 [(0, .ref 55), (1, .int x1)] [] X (0, 0) Q := by
  refine ev_aload_n (x := 55) (pc := 0) d_mo_plan_0 rfl ?_
  refine ev_iload_n (x := x1) (pc := 1) d_mo_plan_1 rfl ?_
  refine ev_callV (z := m_mo_isSector) (as := [.int x1]) (rest := []) (pc := 2) d_mo_plan_2 (ly_at hX 55 rfl) lt13_12 rfl l_mo_267 i_mo_isSector v_mo_isSector o_mo_isSector rfl rfl (Nat.le_of_ble_eq_true rfl) rfl (Nat.le_of_ble_eq_true rfl) ⟨Nat.le_of_ble_eq_true rfl, Nat.le_of_ble_eq_true rfl⟩ (s_mo_isSector hX x1 ) (fun r X1 hq => ?_)
  obtain ⟨rfl, rfl⟩ := hq
  show Ev E m_mo_plan 5 [(0, .ref 55), (1, .int x1)] [.int (bz (iw x1 0 ((gI X 55 37) - 1)))] X (0, 0) Q
  refine ev_ifz_ne (pc := 5) (tgt := 10) d_mo_plan_5 (by decide) (fun c_1 => ?_) (fun c_1 => ?_)
  · have h_2 := hh.1 c_1
    refine ev_aload_n (x := 55) (pc := 10) d_mo_plan_10 rfl ?_
    refine ev_getR (pc := 11) d_mo_plan_11 f_mo_105 (ly_at hX 55 rfl) gg_12 rfl (ly_rf hX 55 39 rfl) ?_
    refine ev_iload_n (x := x1) (pc := 14) d_mo_plan_14 rfl ?_
    refine ev_zaldJ (v := (gI X 86 (Int32.toNatClampNeg x1))) (pc := 15) d_mo_plan_15 (ly_at hX 86 rfl) h_2.1 rfl ?_
    refine ev_if_ne (pc := 16) (tgt := 28) d_mo_plan_16 (by decide) (fun c_4 => ?_) (fun c_4 => ?_)
    · have h_5 := h_2.2.1 c_4
      refine ev_bipush (v := (-3)) (pc := 28) d_mo_plan_28 kc_b_m3 ?_
      exact ev_iret (pc := 30) ⟨Nat.le_of_ble_eq_true rfl, Nat.le_of_ble_eq_true rfl⟩ d_mo_plan_30 rfl (vp_nar_int _) h_5
    · have h_6 := h_2.2.2 c_4
      refine ev_aload_n (x := 55) (pc := 19) d_mo_plan_19 rfl ?_
      refine ev_iload_n (x := x1) (pc := 20) d_mo_plan_20 rfl ?_
      obtain ⟨Qz_7, hc_8, hk_9⟩ := h_6
      refine ev_callV (z := m_mo_placeInPlan) (as := [.int x1]) (rest := []) (pc := 21) d_mo_plan_21 (ly_at hX 55 rfl) lt13_12 rfl l_mo_313 i_mo_placeInPlan v_mo_placeInPlan o_mo_placeInPlan rfl rfl (Nat.le_of_ble_eq_true rfl) rfl (Nat.le_of_ble_eq_true rfl) ⟨Nat.le_of_ble_eq_true rfl, Nat.le_of_ble_eq_true rfl⟩ hc_8 (fun r_11 X_10 hq_12 => ?_)
      obtain ⟨v_15, rfl, hX_14, h_13⟩ := hk_9 _ _ hq_12
      show Ev E m_mo_plan 24 [(0, .ref 55), (1, .int x1)] [.int v_15] X_10 (0, 0) Q
      refine ev_iconst (v := (-1)) (pc := 24) d_mo_plan_24 kc_i_m1 ?_
      refine ev_icmp_eq (pc := 25) (tgt := 31) d_mo_plan_25 (by decide) (fun c_16 => ?_) (fun c_16 => ?_)
      · have h_17 := h_13.1 c_16
        refine ev_aload_n (x := 55) (pc := 31) d_mo_plan_31 rfl ?_
        refine ev_getR (pc := 32) d_mo_plan_32 f_mo_108 (ly_at hX_14 55 rfl) gg_12 rfl (ly_rf hX_14 55 41 rfl) ?_
        refine ev_aload_n (x := 55) (pc := 35) d_mo_plan_35 rfl ?_
        refine ev_getJ (v := (gI X_10 55 40)) (pc := 36) d_mo_plan_36 f_mo_310 (ly_at hX_14 55 rfl) gg_12 rfl rfl ?_
        refine ev_iload_n (x := x1) (pc := 39) d_mo_plan_39 rfl ?_
        refine ev_iast (pc := 40) d_mo_plan_40 (ly_at hX_14 87 rfl) h_17.1 ?_
        refine ev_aload_n (x := 55) (pc := 41) d_mo_plan_41 rfl ?_
        refine ev_dup (pc := 42) d_mo_plan_42 rfl ?_
        refine ev_getJ (v := (gI X_10 55 40)) (pc := 43) d_mo_plan_43 f_mo_310 (ly_at (ly_sI hX_14) 55 rfl) gg_12 rfl rfl ?_
        refine ev_iconst (v := 1) (pc := 46) d_mo_plan_46 kc_i_1 ?_
        refine ev_iadd (pc := 47) d_mo_plan_47 ?_
        refine ev_putI (pc := 48) d_mo_plan_48 f_mo_310 (ly_at (ly_sI hX_14) 55 rfl) gg_12 rfl (Or.inl rfl) (vp_nar_int _) rfl ?_
        refine ev_aload_n (x := 55) (pc := 51) d_mo_plan_51 rfl ?_
        refine ev_getJ (v := ((gI X_10 55 40) + 1)) (pc := 52) d_mo_plan_52 f_mo_310 (ly_at (ly_sI (ly_sI hX_14)) 55 rfl) gg_12 rfl rfl ?_
        exact ev_iret (pc := 55) ⟨Nat.le_of_ble_eq_true rfl, Nat.le_of_ble_eq_true rfl⟩ d_mo_plan_55 rfl (vp_nar_int _) h_17.2
      · have h_18 := h_13.2 c_16
        refine ev_bipush (v := (-3)) (pc := 28) d_mo_plan_28 kc_b_m3 ?_
        exact ev_iret (pc := 30) ⟨Nat.le_of_ble_eq_true rfl, Nat.le_of_ble_eq_true rfl⟩ d_mo_plan_30 rfl (vp_nar_int _) h_18
  · have h_3 := hh.2 c_1
    refine ev_iconst (v := (-1)) (pc := 8) d_mo_plan_8 kc_i_m1 ?_
    exact ev_iret (pc := 9) ⟨Nat.le_of_ble_eq_true rfl, Nat.le_of_ble_eq_true rfl⟩ d_mo_plan_9 rfl (vp_nar_int _) h_3
theorem b_mo_placeInPlan_0 {E : gp_E} {S : gp_S} {X : gp_H} {Q : Option Value → gp_H → Prop} {x1 : Int32} (hX : Lay S X)  (hh : Ev E m_mo_placeInPlan 2 [(0, .ref 55), (1, .int x1), (2, .int 0)] [] X (0, 0) Q) : Ev E m_mo_placeInPlan 0 [(0, .ref 55), (1, .int x1)] [] X (0, 0) Q := by
  refine ev_iconst (v := 0) (pc := 0) d_mo_placeInPlan_0 kc_i_0 ?_
  refine ev_istore_n (L2 := [(0, .ref 55), (1, .int x1), (2, .int 0)]) (pc := 1) d_mo_placeInPlan_1 rfl (Nat.le_of_ble_eq_true rfl) rfl ?_
  exact hh
theorem b_mo_placeInPlan_2 {E : gp_E} {S : gp_S} {X : gp_H} {Q : Option Value → gp_H → Prop} {x1 : Int32} {x2 : Int32} (hX : Lay S X)  (hh : (((gI X 55 40) ≤ x2 → Q (some (.int (-1))) X) ∧ (¬ (gI X 55 40) ≤ x2 → (vp_in x2 7 ∧ ((¬ (gI X 87 (Int32.toNatClampNeg x2)) = x1 → Ev E m_mo_placeInPlan 2 [(0, .ref 55), (1, .int x1), (2, .int (x2 + 1))] [] X (0, 0) Q) ∧ ((gI X 87 (Int32.toNatClampNeg x2)) = x1 → Q (some (.int x2)) X)))))) : Ev E m_mo_placeInPlan 2 [(0, .ref 55), (1, .int x1), (2, .int x2)] [] X (0, 0) Q := by
  refine ev_iload_n (x := x2) (pc := 2) d_mo_placeInPlan_2 rfl ?_
  refine ev_aload_n (x := 55) (pc := 3) d_mo_placeInPlan_3 rfl ?_
  refine ev_getJ (v := (gI X 55 40)) (pc := 4) d_mo_placeInPlan_4 f_mo_310 (ly_at hX 55 rfl) gg_12 rfl rfl ?_
  refine ev_icmp_ge (pc := 7) (tgt := 28) d_mo_placeInPlan_7 (by decide) (fun c_1 => ?_) (fun c_1 => ?_)
  · have h_2 := hh.1 c_1
    refine ev_iconst (v := (-1)) (pc := 28) d_mo_placeInPlan_28 kc_i_m1 ?_
    exact ev_iret (pc := 29) ⟨Nat.le_of_ble_eq_true rfl, Nat.le_of_ble_eq_true rfl⟩ d_mo_placeInPlan_29 rfl (vp_nar_int _) h_2
  · have h_3 := hh.2 c_1
    refine ev_aload_n (x := 55) (pc := 10) d_mo_placeInPlan_10 rfl ?_
    refine ev_getR (pc := 11) d_mo_placeInPlan_11 f_mo_108 (ly_at hX 55 rfl) gg_12 rfl (ly_rf hX 55 41 rfl) ?_
    refine ev_iload_n (x := x2) (pc := 14) d_mo_placeInPlan_14 rfl ?_
    refine ev_ialdJ (v := (gI X 87 (Int32.toNatClampNeg x2))) (pc := 15) d_mo_placeInPlan_15 (ly_at hX 87 rfl) h_3.1 rfl ?_
    refine ev_iload_n (x := x1) (pc := 16) d_mo_placeInPlan_16 rfl ?_
    refine ev_icmp_ne (pc := 17) (tgt := 22) d_mo_placeInPlan_17 (by decide) (fun c_4 => ?_) (fun c_4 => ?_)
    · have h_5 := h_3.2.1 c_4
      refine ev_iinc (v := (x2 + 1)) (L2 := [(0, .ref 55), (1, .int x1), (2, .int (x2 + 1))]) (pc := 22) d_mo_placeInPlan_22 rfl (by rw [kc_i_1]) rfl (Nat.le_of_ble_eq_true rfl) rfl ?_
      refine ev_goto (pc := 25) (tgt := 2) d_mo_placeInPlan_25 (by decide) ?_
      exact h_5
    · have h_6 := h_3.2.2 c_4
      refine ev_iload_n (x := x2) (pc := 20) d_mo_placeInPlan_20 rfl ?_
      exact ev_iret (pc := 21) ⟨Nat.le_of_ble_eq_true rfl, Nat.le_of_ble_eq_true rfl⟩ d_mo_placeInPlan_21 rfl (vp_nar_int _) h_6
theorem b_mo_unplan_0 {E : gp_E} {S : gp_S} {X : gp_H} {Q : Option Value → gp_H → Prop}  (hX : Lay S X)  (hh : Q (some (.int (gI X 55 40))) (gp_sI X 55 40 0)) : Ev E m_mo_unplan 0 [(0, .ref 55)] [] X (0, 0) Q := by
  refine ev_aload_n (x := 55) (pc := 0) d_mo_unplan_0 rfl ?_
  refine ev_getJ (v := (gI X 55 40)) (pc := 1) d_mo_unplan_1 f_mo_310 (ly_at hX 55 rfl) gg_12 rfl rfl ?_
  refine ev_istore_n (L2 := [(0, .ref 55), (1, .int (gI X 55 40))]) (pc := 4) d_mo_unplan_4 rfl (Nat.le_of_ble_eq_true rfl) rfl ?_
  refine ev_aload_n (x := 55) (pc := 5) d_mo_unplan_5 rfl ?_
  refine ev_iconst (v := 0) (pc := 6) d_mo_unplan_6 kc_i_0 ?_
  refine ev_putI (pc := 7) d_mo_unplan_7 f_mo_310 (ly_at hX 55 rfl) gg_12 rfl (Or.inl rfl) (vp_nar_int _) rfl ?_
  refine ev_iload_n (x := (gI X 55 40)) (pc := 10) d_mo_unplan_10 rfl ?_
  exact ev_iret (pc := 11) ⟨Nat.le_of_ble_eq_true rfl, Nat.le_of_ble_eq_true rfl⟩ d_mo_unplan_11 rfl (vp_nar_int _) hh
theorem b_mo_shortOf_0 {E : gp_E} {S : gp_S} {X : gp_H} {Q : Option Value → gp_H → Prop} {x1 : Int32} {x2 : Int32} (hX : Lay S X)  (hh : (((iw x1 0 4) = false → Q (some (.int (-5))) X) ∧ ((iw x1 0 4) = true → (((iw x2 0 1) = true → Ev E m_mo_shortOf 26 [(0, .ref 55), (1, .int x1), (2, .int x2), (3, .int 0), (4, .int 0)] [] X (0, 0) Q) ∧ ((iw x2 0 1) = false → Q (some (.int (-5))) X))))) : Ev E m_mo_shortOf 0 [(0, .ref 55), (1, .int x1), (2, .int x2)] [] X (0, 0) Q := by
  refine ev_iload_n (x := x1) (pc := 0) d_mo_shortOf_0 rfl ?_
  refine ev_iconst (v := 0) (pc := 1) d_mo_shortOf_1 kc_i_0 ?_
  refine ev_iconst (v := 4) (pc := 2) d_mo_shortOf_2 kc_i_4 ?_
  refine ev_callS (z := m_mo_in) (as := [.int x1, .int 0, .int 4]) (rest := []) (pc := 3) d_mo_shortOf_3 l_mo_196 i_mo_in o_mo_in rfl rfl (Nat.le_of_ble_eq_true rfl) rfl (Nat.le_of_ble_eq_true rfl) ⟨Nat.le_of_ble_eq_true rfl, Nat.le_of_ble_eq_true rfl⟩ (s_mo_in hX x1 0 4) (fun r X1 hq => ?_)
  obtain ⟨rfl, rfl⟩ := hq
  show Ev E m_mo_shortOf 6 [(0, .ref 55), (1, .int x1), (2, .int x2)] [.int (bz (iw x1 0 4))] X (0, 0) Q
  refine ev_ifz_eq (pc := 6) (tgt := 18) d_mo_shortOf_6 (by decide) (fun c_1 => ?_) (fun c_1 => ?_)
  · have h_2 := hh.1 c_1
    refine ev_bipush (v := (-5)) (pc := 18) d_mo_shortOf_18 kc_b_m5 ?_
    exact ev_iret (pc := 20) ⟨Nat.le_of_ble_eq_true rfl, Nat.le_of_ble_eq_true rfl⟩ d_mo_shortOf_20 rfl (vp_nar_int _) h_2
  · have h_3 := hh.2 c_1
    refine ev_iload_n (x := x2) (pc := 9) d_mo_shortOf_9 rfl ?_
    refine ev_iconst (v := 0) (pc := 10) d_mo_shortOf_10 kc_i_0 ?_
    refine ev_iconst (v := 1) (pc := 11) d_mo_shortOf_11 kc_i_1 ?_
    refine ev_callS (z := m_mo_in) (as := [.int x2, .int 0, .int 1]) (rest := []) (pc := 12) d_mo_shortOf_12 l_mo_196 i_mo_in o_mo_in rfl rfl (Nat.le_of_ble_eq_true rfl) rfl (Nat.le_of_ble_eq_true rfl) ⟨Nat.le_of_ble_eq_true rfl, Nat.le_of_ble_eq_true rfl⟩ (s_mo_in hX x2 0 1) (fun r X1 hq => ?_)
    obtain ⟨rfl, rfl⟩ := hq
    show Ev E m_mo_shortOf 15 [(0, .ref 55), (1, .int x1), (2, .int x2)] [.int (bz (iw x2 0 1))] X (0, 0) Q
    refine ev_ifz_ne (pc := 15) (tgt := 21) d_mo_shortOf_15 (by decide) (fun c_4 => ?_) (fun c_4 => ?_)
    · have h_5 := h_3.1 c_4
      refine ev_iconst (v := 0) (pc := 21) d_mo_shortOf_21 kc_i_0 ?_
      refine ev_istore_n (L2 := [(0, .ref 55), (1, .int x1), (2, .int x2), (3, .int 0)]) (pc := 22) d_mo_shortOf_22 rfl (Nat.le_of_ble_eq_true rfl) rfl ?_
      refine ev_iconst (v := 0) (pc := 23) d_mo_shortOf_23 kc_i_0 ?_
      refine ev_istore (L2 := [(0, .ref 55), (1, .int x1), (2, .int x2), (3, .int 0), (4, .int 0)]) (pc := 24) d_mo_shortOf_24 rfl (Nat.le_of_ble_eq_true rfl) rfl ?_
      exact h_5
    · have h_6 := h_3.2 c_4
      refine ev_bipush (v := (-5)) (pc := 18) d_mo_shortOf_18 kc_b_m5 ?_
      exact ev_iret (pc := 20) ⟨Nat.le_of_ble_eq_true rfl, Nat.le_of_ble_eq_true rfl⟩ d_mo_shortOf_20 rfl (vp_nar_int _) h_6
theorem b_mo_shortOf_26 {E : gp_E} {S : gp_S} {X : gp_H} {Q : Option Value → gp_H → Prop} {x1 : Int32} {x2 : Int32} {x3 : Int32} {x4 : Int32} (hX : Lay S X)  (hh : (((gI X 55 40) ≤ x4 → Q (some (.int (-1))) X) ∧ (¬ (gI X 55 40) ≤ x4 → (vp_in x4 7 ∧ ((¬ x2 = 1 → Ev E m_mo_shortOf 59 [(0, .ref 55), (1, .int x1), (2, .int x2), (3, .int x3), (4, .int x4)] [.int 0, .int (gI X 55 29), .int x1, .int (gI X 87 (Int32.toNatClampNeg x4)), .ref 55, .int x3] X (0, 0) Q) ∧ (x2 = 1 → Ev E m_mo_shortOf 59 [(0, .ref 55), (1, .int x1), (2, .int x2), (3, .int x3), (4, .int x4)] [.int 1, .int (gI X 55 29), .int x1, .int (gI X 87 (Int32.toNatClampNeg x4)), .ref 55, .int x3] X (0, 0) Q)))))) : Ev E m_mo_shortOf 26 [(0, .ref 55), (1, .int x1), (2, .int x2), (3, .int x3), (4, .int x4)] [] X (0, 0) Q := by
  refine ev_iload (x := x4) (pc := 26) d_mo_shortOf_26 rfl ?_
  refine ev_aload_n (x := 55) (pc := 28) d_mo_shortOf_28 rfl ?_
  refine ev_getJ (v := (gI X 55 40)) (pc := 29) d_mo_shortOf_29 f_mo_310 (ly_at hX 55 rfl) gg_12 rfl rfl ?_
  refine ev_icmp_ge (pc := 32) (tgt := 163) d_mo_shortOf_32 (by decide) (fun c_1 => ?_) (fun c_1 => ?_)
  · have h_2 := hh.1 c_1
    refine ev_iconst (v := (-1)) (pc := 163) d_mo_shortOf_163 kc_i_m1 ?_
    exact ev_iret (pc := 164) ⟨Nat.le_of_ble_eq_true rfl, Nat.le_of_ble_eq_true rfl⟩ d_mo_shortOf_164 rfl (vp_nar_int _) h_2
  · have h_3 := hh.2 c_1
    refine ev_iload_n (x := x3) (pc := 35) d_mo_shortOf_35 rfl ?_
    refine ev_aload_n (x := 55) (pc := 36) d_mo_shortOf_36 rfl ?_
    refine ev_aload_n (x := 55) (pc := 37) d_mo_shortOf_37 rfl ?_
    refine ev_getR (pc := 38) d_mo_shortOf_38 f_mo_108 (ly_at hX 55 rfl) gg_12 rfl (ly_rf hX 55 41 rfl) ?_
    refine ev_iload (x := x4) (pc := 41) d_mo_shortOf_41 rfl ?_
    refine ev_ialdJ (v := (gI X 87 (Int32.toNatClampNeg x4))) (pc := 43) d_mo_shortOf_43 (ly_at hX 87 rfl) h_3.1 rfl ?_
    refine ev_iload_n (x := x1) (pc := 44) d_mo_shortOf_44 rfl ?_
    refine ev_aload_n (x := 55) (pc := 45) d_mo_shortOf_45 rfl ?_
    refine ev_getJ (v := (gI X 55 29)) (pc := 46) d_mo_shortOf_46 f_mo_254 (ly_at hX 55 rfl) gg_12 rfl rfl ?_
    refine ev_iload_n (x := x2) (pc := 49) d_mo_shortOf_49 rfl ?_
    refine ev_iconst (v := 1) (pc := 50) d_mo_shortOf_50 kc_i_1 ?_
    refine ev_icmp_ne (pc := 51) (tgt := 58) d_mo_shortOf_51 (by decide) (fun c_4 => ?_) (fun c_4 => ?_)
    · have h_5 := h_3.2.1 c_4
      refine ev_iconst (v := 0) (pc := 58) d_mo_shortOf_58 kc_i_0 ?_
      exact h_5
    · have h_6 := h_3.2.2 c_4
      refine ev_iconst (v := 1) (pc := 54) d_mo_shortOf_54 kc_i_1 ?_
      refine ev_goto (pc := 55) (tgt := 59) d_mo_shortOf_55 (by decide) ?_
      exact h_6
theorem b_mo_shortOf_59 {E : gp_E} {S : gp_S} {X : gp_H} {Q : Option Value → gp_H → Prop} {x1 : Int32} {x2 : Int32} {x3 : Int32} {x4 : Int32} {t0 : Int32} {t1 : Int32} {t2 : Int32} {t3 : Int32} {t5 : Int32} (hX : Lay S X)  (hh : (∃ Qz_1, Ev E m_mo_needOf 0 [(0, .ref 55), (1, .int t3), (2, .int t2), (3, .int t1), (4, .int t0)] [] X (0, 0) Qz_1 ∧ ∀ r X_4, Qz_1 r X_4 → ∃ v_9 : Int32, r = some (.int v_9) ∧ Lay S X_4 ∧ (vp_in x1 5 ∧ Ev E m_mo_shortOf 75 [(0, .ref 55), (1, .int x1), (2, .int x2), (3, .int (t5 + v_9)), (4, .int x4), (5, .int (gI X_4 81 (Int32.toNatClampNeg x1))), (6, .int 0)] [] X_4 (0, 0) Q))) : Ev E m_mo_shortOf 59 [(0, .ref 55), (1, .int x1), (2, .int x2), (3, .int x3), (4, .int x4)] [.int t0, .int t1, .int t2, .int t3, .ref 55, .int t5] X (0, 0) Q := by
  obtain ⟨Qz_1, hc_2, hk_3⟩ := hh
  refine ev_callV (z := m_mo_needOf) (as := [.int t3, .int t2, .int t1, .int t0]) (rest := [.int t5]) (pc := 59) d_mo_shortOf_59 (ly_at hX 55 rfl) lt13_12 rfl l_mo_270 i_mo_needOf v_mo_needOf o_mo_needOf rfl rfl (Nat.le_of_ble_eq_true rfl) rfl (Nat.le_of_ble_eq_true rfl) ⟨Nat.le_of_ble_eq_true rfl, Nat.le_of_ble_eq_true rfl⟩ hc_2 (fun r_5 X_4 hq_6 => ?_)
  obtain ⟨v_9, rfl, hX_8, h_7⟩ := hk_3 _ _ hq_6
  show Ev E m_mo_shortOf 62 [(0, .ref 55), (1, .int x1), (2, .int x2), (3, .int x3), (4, .int x4)] [.int v_9, .int t5] X_4 (0, 0) Q
  refine ev_iadd (pc := 62) d_mo_shortOf_62 ?_
  refine ev_istore_n (L2 := [(0, .ref 55), (1, .int x1), (2, .int x2), (3, .int (t5 + v_9)), (4, .int x4)]) (pc := 63) d_mo_shortOf_63 rfl (Nat.le_of_ble_eq_true rfl) rfl ?_
  refine ev_aload_n (x := 55) (pc := 64) d_mo_shortOf_64 rfl ?_
  refine ev_getR (pc := 65) d_mo_shortOf_65 f_mo_90 (ly_at hX_8 55 rfl) gg_12 rfl (ly_rf hX_8 55 32 rfl) ?_
  refine ev_iload_n (x := x1) (pc := 68) d_mo_shortOf_68 rfl ?_
  refine ev_ialdJ (v := (gI X_4 81 (Int32.toNatClampNeg x1))) (pc := 69) d_mo_shortOf_69 (ly_at hX_8 81 rfl) h_7.1 rfl ?_
  refine ev_istore (L2 := [(0, .ref 55), (1, .int x1), (2, .int x2), (3, .int (t5 + v_9)), (4, .int x4), (5, .int (gI X_4 81 (Int32.toNatClampNeg x1)))]) (pc := 70) d_mo_shortOf_70 rfl (Nat.le_of_ble_eq_true rfl) rfl ?_
  refine ev_iconst (v := 0) (pc := 72) d_mo_shortOf_72 kc_i_0 ?_
  refine ev_istore (L2 := [(0, .ref 55), (1, .int x1), (2, .int x2), (3, .int (t5 + v_9)), (4, .int x4), (5, .int (gI X_4 81 (Int32.toNatClampNeg x1))), (6, .int 0)]) (pc := 73) d_mo_shortOf_73 rfl (Nat.le_of_ble_eq_true rfl) rfl ?_
  exact h_7.2
theorem b_mo_shortOf_75 {E : gp_E} {S : gp_S} {X : gp_H} {Q : Option Value → gp_H → Prop} {x1 : Int32} {x2 : Int32} {x3 : Int32} {x4 : Int32} {x5 : Int32} {x6 : Int32} (hX : Lay S X)  (hh : (((gI X 55 33) ≤ x6 → ((x3 ≤ x5 → Ev E m_mo_shortOf 26 [(0, .ref 55), (1, .int x1), (2, .int x2), (3, .int x3), (4, .int (x4 + 1))] [] X (0, 0) Q) ∧ (¬ x3 ≤ x5 → Q (some (.int ((gI X 55 44) + x4))) X))) ∧ (¬ (gI X 55 33) ≤ x6 → (vp_in x6 30 ∧ ((¬ (gI X 82 (Int32.toNatClampNeg x6)) = x1 → Ev E m_mo_shortOf 133 [(0, .ref 55), (1, .int x1), (2, .int x2), (3, .int x3), (4, .int x4), (5, .int x5), (6, .int x6)] [.int x5] X (0, 0) Q) ∧ ((gI X 82 (Int32.toNatClampNeg x6)) = x1 → (((iw (gI X 84 (Int32.toNatClampNeg x6)) ((gI X 55 44) + 1) ((gI X 55 44) + x4)) = false → Ev E m_mo_shortOf 133 [(0, .ref 55), (1, .int x1), (2, .int x2), (3, .int x3), (4, .int x4), (5, .int x5), (6, .int x6)] [.int x5] X (0, 0) Q) ∧ ((iw (gI X 84 (Int32.toNatClampNeg x6)) ((gI X 55 44) + 1) ((gI X 55 44) + x4)) = true → Ev E m_mo_shortOf 75 [(0, .ref 55), (1, .int x1), (2, .int x2), (3, .int x3), (4, .int x4), (5, .int (x5 + (gI X 83 (Int32.toNatClampNeg x6)))), (6, .int (x6 + 1))] [] X (0, 0) Q)))))))) : Ev E m_mo_shortOf 75 [(0, .ref 55), (1, .int x1), (2, .int x2), (3, .int x3), (4, .int x4), (5, .int x5), (6, .int x6)] [] X (0, 0) Q := by
  refine ev_iload (x := x6) (pc := 75) d_mo_shortOf_75 rfl ?_
  refine ev_aload_n (x := 55) (pc := 77) d_mo_shortOf_77 rfl ?_
  refine ev_getJ (v := (gI X 55 33)) (pc := 78) d_mo_shortOf_78 f_mo_277 (ly_at hX 55 rfl) gg_12 rfl rfl ?_
  refine ev_icmp_ge (pc := 81) (tgt := 143) d_mo_shortOf_81 (by decide) (fun c_1 => ?_) (fun c_1 => ?_)
  · have h_2 := hh.1 c_1
    refine ev_iload (x := x5) (pc := 143) d_mo_shortOf_143 rfl ?_
    refine ev_iload_n (x := x3) (pc := 145) d_mo_shortOf_145 rfl ?_
    refine ev_icmp_ge (pc := 146) (tgt := 157) d_mo_shortOf_146 (by decide) (fun c_4 => ?_) (fun c_4 => ?_)
    · have h_5 := h_2.1 c_4
      refine ev_iinc (v := (x4 + 1)) (L2 := [(0, .ref 55), (1, .int x1), (2, .int x2), (3, .int x3), (4, .int (x4 + 1)), (5, .int x5), (6, .int x6)]) (pc := 157) d_mo_shortOf_157 rfl (by rw [kc_i_1]) rfl (Nat.le_of_ble_eq_true rfl) rfl ?_
      refine ev_goto (pc := 160) (tgt := 26) d_mo_shortOf_160 (by decide) ?_
      exact ev_sub [(0, .ref 55), (1, .int x1), (2, .int x2), (3, .int x3), (4, .int (x4 + 1))] (List.forall_mem_cons.mpr ⟨rfl, (List.forall_mem_cons.mpr ⟨rfl, (List.forall_mem_cons.mpr ⟨rfl, (List.forall_mem_cons.mpr ⟨rfl, (List.forall_mem_cons.mpr ⟨rfl, (fun _ h => nomatch h)⟩)⟩)⟩)⟩)⟩) h_5
    · have h_6 := h_2.2 c_4
      refine ev_aload_n (x := 55) (pc := 149) d_mo_shortOf_149 rfl ?_
      refine ev_getJ (v := (gI X 55 44)) (pc := 150) d_mo_shortOf_150 f_mo_274 (ly_at hX 55 rfl) gg_12 rfl rfl ?_
      refine ev_iload (x := x4) (pc := 153) d_mo_shortOf_153 rfl ?_
      refine ev_iadd (pc := 155) d_mo_shortOf_155 ?_
      exact ev_iret (pc := 156) ⟨Nat.le_of_ble_eq_true rfl, Nat.le_of_ble_eq_true rfl⟩ d_mo_shortOf_156 rfl (vp_nar_int _) h_6
  · have h_3 := hh.2 c_1
    refine ev_iload (x := x5) (pc := 84) d_mo_shortOf_84 rfl ?_
    refine ev_aload_n (x := 55) (pc := 86) d_mo_shortOf_86 rfl ?_
    refine ev_getR (pc := 87) d_mo_shortOf_87 f_mo_93 (ly_at hX 55 rfl) gg_12 rfl (ly_rf hX 55 34 rfl) ?_
    refine ev_iload (x := x6) (pc := 90) d_mo_shortOf_90 rfl ?_
    refine ev_ialdJ (v := (gI X 82 (Int32.toNatClampNeg x6))) (pc := 92) d_mo_shortOf_92 (ly_at hX 82 rfl) h_3.1 rfl ?_
    refine ev_iload_n (x := x1) (pc := 93) d_mo_shortOf_93 rfl ?_
    refine ev_icmp_ne (pc := 94) (tgt := 133) d_mo_shortOf_94 (by decide) (fun c_7 => ?_) (fun c_7 => ?_)
    · have h_8 := h_3.2.1 c_7
      exact h_8
    · have h_9 := h_3.2.2 c_7
      refine ev_aload_n (x := 55) (pc := 97) d_mo_shortOf_97 rfl ?_
      refine ev_getR (pc := 98) d_mo_shortOf_98 f_mo_99 (ly_at hX 55 rfl) gg_12 rfl (ly_rf hX 55 36 rfl) ?_
      refine ev_iload (x := x6) (pc := 101) d_mo_shortOf_101 rfl ?_
      refine ev_ialdJ (v := (gI X 84 (Int32.toNatClampNeg x6))) (pc := 103) d_mo_shortOf_103 (ly_at hX 84 rfl) h_3.1 rfl ?_
      refine ev_aload_n (x := 55) (pc := 104) d_mo_shortOf_104 rfl ?_
      refine ev_getJ (v := (gI X 55 44)) (pc := 105) d_mo_shortOf_105 f_mo_274 (ly_at hX 55 rfl) gg_12 rfl rfl ?_
      refine ev_iconst (v := 1) (pc := 108) d_mo_shortOf_108 kc_i_1 ?_
      refine ev_iadd (pc := 109) d_mo_shortOf_109 ?_
      refine ev_aload_n (x := 55) (pc := 110) d_mo_shortOf_110 rfl ?_
      refine ev_getJ (v := (gI X 55 44)) (pc := 111) d_mo_shortOf_111 f_mo_274 (ly_at hX 55 rfl) gg_12 rfl rfl ?_
      refine ev_iload (x := x4) (pc := 114) d_mo_shortOf_114 rfl ?_
      refine ev_iadd (pc := 116) d_mo_shortOf_116 ?_
      refine ev_callS (z := m_mo_in) (as := [.int (gI X 84 (Int32.toNatClampNeg x6)), .int ((gI X 55 44) + 1), .int ((gI X 55 44) + x4)]) (rest := [.int x5]) (pc := 117) d_mo_shortOf_117 l_mo_196 i_mo_in o_mo_in rfl rfl (Nat.le_of_ble_eq_true rfl) rfl (Nat.le_of_ble_eq_true rfl) ⟨Nat.le_of_ble_eq_true rfl, Nat.le_of_ble_eq_true rfl⟩ (s_mo_in hX (gI X 84 (Int32.toNatClampNeg x6)) ((gI X 55 44) + 1) ((gI X 55 44) + x4)) (fun r X1 hq => ?_)
      obtain ⟨rfl, rfl⟩ := hq
      show Ev E m_mo_shortOf 120 [(0, .ref 55), (1, .int x1), (2, .int x2), (3, .int x3), (4, .int x4), (5, .int x5), (6, .int x6)] [.int (bz (iw (gI X 84 (Int32.toNatClampNeg x6)) ((gI X 55 44) + 1) ((gI X 55 44) + x4))), .int x5] X (0, 0) Q
      refine ev_ifz_eq (pc := 120) (tgt := 133) d_mo_shortOf_120 (by decide) (fun c_10 => ?_) (fun c_10 => ?_)
      · have h_11 := h_9.1 c_10
        exact h_11
      · have h_12 := h_9.2 c_10
        refine ev_aload_n (x := 55) (pc := 123) d_mo_shortOf_123 rfl ?_
        refine ev_getR (pc := 124) d_mo_shortOf_124 f_mo_96 (ly_at hX 55 rfl) gg_12 rfl (ly_rf hX 55 35 rfl) ?_
        refine ev_iload (x := x6) (pc := 127) d_mo_shortOf_127 rfl ?_
        refine ev_ialdJ (v := (gI X 83 (Int32.toNatClampNeg x6))) (pc := 129) d_mo_shortOf_129 (ly_at hX 83 rfl) h_3.1 rfl ?_
        refine ev_goto (pc := 130) (tgt := 134) d_mo_shortOf_130 (by decide) ?_
        refine ev_iadd (pc := 134) d_mo_shortOf_134 ?_
        refine ev_istore (L2 := [(0, .ref 55), (1, .int x1), (2, .int x2), (3, .int x3), (4, .int x4), (5, .int (x5 + (gI X 83 (Int32.toNatClampNeg x6)))), (6, .int x6)]) (pc := 135) d_mo_shortOf_135 rfl (Nat.le_of_ble_eq_true rfl) rfl ?_
        refine ev_iinc (v := (x6 + 1)) (L2 := [(0, .ref 55), (1, .int x1), (2, .int x2), (3, .int x3), (4, .int x4), (5, .int (x5 + (gI X 83 (Int32.toNatClampNeg x6)))), (6, .int (x6 + 1))]) (pc := 137) d_mo_shortOf_137 rfl (by rw [kc_i_1]) rfl (Nat.le_of_ble_eq_true rfl) rfl ?_
        refine ev_goto (pc := 140) (tgt := 75) d_mo_shortOf_140 (by decide) ?_
        exact h_12
theorem b_mo_shortOf_133 {E : gp_E} {S : gp_S} {X : gp_H} {Q : Option Value → gp_H → Prop} {x1 : Int32} {x2 : Int32} {x3 : Int32} {x4 : Int32} {x5 : Int32} {x6 : Int32} {t0 : Int32} (hX : Lay S X)  (hh : Ev E m_mo_shortOf 75 [(0, .ref 55), (1, .int x1), (2, .int x2), (3, .int x3), (4, .int x4), (5, .int (t0 + 0)), (6, .int (x6 + 1))] [] X (0, 0) Q) : Ev E m_mo_shortOf 133 [(0, .ref 55), (1, .int x1), (2, .int x2), (3, .int x3), (4, .int x4), (5, .int x5), (6, .int x6)] [.int t0] X (0, 0) Q := by
  refine ev_iconst (v := 0) (pc := 133) d_mo_shortOf_133 kc_i_0 ?_
  refine ev_iadd (pc := 134) d_mo_shortOf_134 ?_
  refine ev_istore (L2 := [(0, .ref 55), (1, .int x1), (2, .int x2), (3, .int x3), (4, .int x4), (5, .int (t0 + 0)), (6, .int x6)]) (pc := 135) d_mo_shortOf_135 rfl (Nat.le_of_ble_eq_true rfl) rfl ?_
  refine ev_iinc (v := (x6 + 1)) (L2 := [(0, .ref 55), (1, .int x1), (2, .int x2), (3, .int x3), (4, .int x4), (5, .int (t0 + 0)), (6, .int (x6 + 1))]) (pc := 137) d_mo_shortOf_137 rfl (by rw [kc_i_1]) rfl (Nat.le_of_ble_eq_true rfl) rfl ?_
  refine ev_goto (pc := 140) (tgt := 75) d_mo_shortOf_140 (by decide) ?_
  exact hh
theorem b_mo_fitter_0 {E : gp_E} {S : gp_S} {X : gp_H} {Q : Option Value → gp_H → Prop} {x1 : Int32} {x2 : Int32} {x3 : Int32} (hX : Lay S X)  (hh : (((iw x3 0 ((gI X 55 0) - 1)) = true → (((iw x1 0 15) = false → Q (some (.int (-2))) X) ∧ ((iw x1 0 15) = true → (((iw x2 1 10) = true → ((¬ (gI X 55 45) = 8 → (vp_in (gI X 55 45) 8 ∧ Q (some (.int (((gI X 55 45) + 1) - 1))) (gp_sI (gp_sI (gp_sI (gp_sI X 89 (Int32.toNatClampNeg (gI X 55 45)) x1) 90 (Int32.toNatClampNeg (gI X 55 45)) x2) 91 (Int32.toNatClampNeg (gI X 55 45)) x3) 55 45 ((gI X 55 45) + 1)))) ∧ ((gI X 55 45) = 8 → Q (some (.int (-4))) X))) ∧ ((iw x2 1 10) = false → Q (some (.int (-2))) X))))) ∧ ((iw x3 0 ((gI X 55 0) - 1)) = false → Q (some (.int (-1))) X))) : Ev E m_mo_fitter 0 [(0, .ref 55), (1, .int x1), (2, .int x2), (3, .int x3)] [] X (0, 0) Q := by
  refine ev_aload_n (x := 55) (pc := 0) d_mo_fitter_0 rfl ?_
  refine ev_iload_n (x := x3) (pc := 1) d_mo_fitter_1 rfl ?_
  refine ev_callV (z := m_mo_isKnot) (as := [.int x3]) (rest := []) (pc := 2) d_mo_fitter_2 (ly_at hX 55 rfl) lt13_12 rfl l_mo_212 i_mo_isKnot v_mo_isKnot o_mo_isKnot rfl rfl (Nat.le_of_ble_eq_true rfl) rfl (Nat.le_of_ble_eq_true rfl) ⟨Nat.le_of_ble_eq_true rfl, Nat.le_of_ble_eq_true rfl⟩ (s_mo_isKnot hX x3 ) (fun r X1 hq => ?_)
  obtain ⟨rfl, rfl⟩ := hq
  show Ev E m_mo_fitter 5 [(0, .ref 55), (1, .int x1), (2, .int x2), (3, .int x3)] [.int (bz (iw x3 0 ((gI X 55 0) - 1)))] X (0, 0) Q
  refine ev_ifz_ne (pc := 5) (tgt := 10) d_mo_fitter_5 (by decide) (fun c_1 => ?_) (fun c_1 => ?_)
  · have h_2 := hh.1 c_1
    refine ev_iload_n (x := x1) (pc := 10) d_mo_fitter_10 rfl ?_
    refine ev_iconst (v := 0) (pc := 11) d_mo_fitter_11 kc_i_0 ?_
    refine ev_bipush (v := 15) (pc := 12) d_mo_fitter_12 kc_b_15 ?_
    refine ev_callS (z := m_mo_in) (as := [.int x1, .int 0, .int 15]) (rest := []) (pc := 14) d_mo_fitter_14 l_mo_196 i_mo_in o_mo_in rfl rfl (Nat.le_of_ble_eq_true rfl) rfl (Nat.le_of_ble_eq_true rfl) ⟨Nat.le_of_ble_eq_true rfl, Nat.le_of_ble_eq_true rfl⟩ (s_mo_in hX x1 0 15) (fun r X1 hq => ?_)
    obtain ⟨rfl, rfl⟩ := hq
    show Ev E m_mo_fitter 17 [(0, .ref 55), (1, .int x1), (2, .int x2), (3, .int x3)] [.int (bz (iw x1 0 15))] X (0, 0) Q
    refine ev_ifz_eq (pc := 17) (tgt := 30) d_mo_fitter_17 (by decide) (fun c_4 => ?_) (fun c_4 => ?_)
    · have h_5 := h_2.1 c_4
      refine ev_bipush (v := (-2)) (pc := 30) d_mo_fitter_30 kc_b_m2 ?_
      exact ev_iret (pc := 32) ⟨Nat.le_of_ble_eq_true rfl, Nat.le_of_ble_eq_true rfl⟩ d_mo_fitter_32 rfl (vp_nar_int _) h_5
    · have h_6 := h_2.2 c_4
      refine ev_iload_n (x := x2) (pc := 20) d_mo_fitter_20 rfl ?_
      refine ev_iconst (v := 1) (pc := 21) d_mo_fitter_21 kc_i_1 ?_
      refine ev_bipush (v := 10) (pc := 22) d_mo_fitter_22 kc_b_10 ?_
      refine ev_callS (z := m_mo_in) (as := [.int x2, .int 1, .int 10]) (rest := []) (pc := 24) d_mo_fitter_24 l_mo_196 i_mo_in o_mo_in rfl rfl (Nat.le_of_ble_eq_true rfl) rfl (Nat.le_of_ble_eq_true rfl) ⟨Nat.le_of_ble_eq_true rfl, Nat.le_of_ble_eq_true rfl⟩ (s_mo_in hX x2 1 10) (fun r X1 hq => ?_)
      obtain ⟨rfl, rfl⟩ := hq
      show Ev E m_mo_fitter 27 [(0, .ref 55), (1, .int x1), (2, .int x2), (3, .int x3)] [.int (bz (iw x2 1 10))] X (0, 0) Q
      refine ev_ifz_ne (pc := 27) (tgt := 33) d_mo_fitter_27 (by decide) (fun c_7 => ?_) (fun c_7 => ?_)
      · have h_8 := h_6.1 c_7
        refine ev_aload_n (x := 55) (pc := 33) d_mo_fitter_33 rfl ?_
        refine ev_getJ (v := (gI X 55 45)) (pc := 34) d_mo_fitter_34 f_mo_209 (ly_at hX 55 rfl) gg_12 rfl rfl ?_
        refine ev_bipush (v := 8) (pc := 37) d_mo_fitter_37 kc_b_8 ?_
        refine ev_icmp_ne (pc := 39) (tgt := 45) d_mo_fitter_39 (by decide) (fun c_10 => ?_) (fun c_10 => ?_)
        · have h_11 := h_8.1 c_10
          refine ev_aload_n (x := 55) (pc := 45) d_mo_fitter_45 rfl ?_
          refine ev_getR (pc := 46) d_mo_fitter_46 f_mo_114 (ly_at hX 55 rfl) gg_12 rfl (ly_rf hX 55 46 rfl) ?_
          refine ev_aload_n (x := 55) (pc := 49) d_mo_fitter_49 rfl ?_
          refine ev_getJ (v := (gI X 55 45)) (pc := 50) d_mo_fitter_50 f_mo_209 (ly_at hX 55 rfl) gg_12 rfl rfl ?_
          refine ev_iload_n (x := x1) (pc := 53) d_mo_fitter_53 rfl ?_
          refine ev_iast (pc := 54) d_mo_fitter_54 (ly_at hX 89 rfl) h_11.1 ?_
          refine ev_aload_n (x := 55) (pc := 55) d_mo_fitter_55 rfl ?_
          refine ev_getR (pc := 56) d_mo_fitter_56 f_mo_117 (ly_at (ly_sI hX) 55 rfl) gg_12 rfl (ly_rf (ly_sI hX) 55 47 rfl) ?_
          refine ev_aload_n (x := 55) (pc := 59) d_mo_fitter_59 rfl ?_
          refine ev_getJ (v := (gI X 55 45)) (pc := 60) d_mo_fitter_60 f_mo_209 (ly_at (ly_sI hX) 55 rfl) gg_12 rfl rfl ?_
          refine ev_iload_n (x := x2) (pc := 63) d_mo_fitter_63 rfl ?_
          refine ev_iast (pc := 64) d_mo_fitter_64 (ly_at (ly_sI hX) 90 rfl) h_11.1 ?_
          refine ev_aload_n (x := 55) (pc := 65) d_mo_fitter_65 rfl ?_
          refine ev_getR (pc := 66) d_mo_fitter_66 f_mo_120 (ly_at (ly_sI (ly_sI hX)) 55 rfl) gg_12 rfl (ly_rf (ly_sI (ly_sI hX)) 55 48 rfl) ?_
          refine ev_aload_n (x := 55) (pc := 69) d_mo_fitter_69 rfl ?_
          refine ev_getJ (v := (gI X 55 45)) (pc := 70) d_mo_fitter_70 f_mo_209 (ly_at (ly_sI (ly_sI hX)) 55 rfl) gg_12 rfl rfl ?_
          refine ev_iload_n (x := x3) (pc := 73) d_mo_fitter_73 rfl ?_
          refine ev_iast (pc := 74) d_mo_fitter_74 (ly_at (ly_sI (ly_sI hX)) 91 rfl) h_11.1 ?_
          refine ev_aload_n (x := 55) (pc := 75) d_mo_fitter_75 rfl ?_
          refine ev_dup (pc := 76) d_mo_fitter_76 rfl ?_
          refine ev_getJ (v := (gI X 55 45)) (pc := 77) d_mo_fitter_77 f_mo_209 (ly_at (ly_sI (ly_sI (ly_sI hX))) 55 rfl) gg_12 rfl rfl ?_
          refine ev_iconst (v := 1) (pc := 80) d_mo_fitter_80 kc_i_1 ?_
          refine ev_iadd (pc := 81) d_mo_fitter_81 ?_
          refine ev_putI (pc := 82) d_mo_fitter_82 f_mo_209 (ly_at (ly_sI (ly_sI (ly_sI hX))) 55 rfl) gg_12 rfl (Or.inl rfl) (vp_nar_int _) rfl ?_
          refine ev_aload_n (x := 55) (pc := 85) d_mo_fitter_85 rfl ?_
          refine ev_getJ (v := ((gI X 55 45) + 1)) (pc := 86) d_mo_fitter_86 f_mo_209 (ly_at (ly_sI (ly_sI (ly_sI (ly_sI hX)))) 55 rfl) gg_12 rfl rfl ?_
          refine ev_iconst (v := 1) (pc := 89) d_mo_fitter_89 kc_i_1 ?_
          refine ev_isub (pc := 90) d_mo_fitter_90 ?_
          exact ev_iret (pc := 91) ⟨Nat.le_of_ble_eq_true rfl, Nat.le_of_ble_eq_true rfl⟩ d_mo_fitter_91 rfl (vp_nar_int _) h_11.2
        · have h_12 := h_8.2 c_10
          refine ev_bipush (v := (-4)) (pc := 42) d_mo_fitter_42 kc_b_m4 ?_
          exact ev_iret (pc := 44) ⟨Nat.le_of_ble_eq_true rfl, Nat.le_of_ble_eq_true rfl⟩ d_mo_fitter_44 rfl (vp_nar_int _) h_12
      · have h_9 := h_6.2 c_7
        refine ev_bipush (v := (-2)) (pc := 30) d_mo_fitter_30 kc_b_m2 ?_
        exact ev_iret (pc := 32) ⟨Nat.le_of_ble_eq_true rfl, Nat.le_of_ble_eq_true rfl⟩ d_mo_fitter_32 rfl (vp_nar_int _) h_9
  · have h_3 := hh.2 c_1
    refine ev_iconst (v := (-1)) (pc := 8) d_mo_fitter_8 kc_i_m1 ?_
    exact ev_iret (pc := 9) ⟨Nat.le_of_ble_eq_true rfl, Nat.le_of_ble_eq_true rfl⟩ d_mo_fitter_9 rfl (vp_nar_int _) h_3
theorem b_mo_change_0 {E : gp_E} {S : gp_S} {X : gp_H} {Q : Option Value → gp_H → Prop} {x1 : Int32} (hX : Lay S X)  (hh : (((iw x1 0 ((gI X 55 37) - 1)) = true → (∃ Qz_4, Ev E m_mo_whyNot 0 [(0, .ref 55), (1, .int x1)] [] X (0, 0) Qz_4 ∧ ∀ r X_7, Qz_4 r X_7 → ∃ v_12 : Int32, r = some (.int v_12) ∧ Lay S X_7 ∧ ((¬ v_12 = 0 → Q (some (.int (-3))) X_7) ∧ (v_12 = 0 → ((¬ (gI X_7 55 44) = 200 → (vp_in x1 7 ∧ (∃ Qz_19, Ev E m_mo_placeInPlan 0 [(0, .ref 55), (1, .int x1)] [] (gp_sI X_7 86 (Int32.toNatClampNeg x1) 1) (0, 0) Qz_19 ∧ ∀ r X_22, Qz_19 r X_22 → ∃ v_27 : Int32, r = some (.int v_27) ∧ Lay S X_22 ∧ ((v_27 = (-1) → Ev E m_mo_change 93 [(0, .ref 55), (1, .int x1), (2, .int v_27), (3, .int 0)] [] X_22 (0, 0) Q) ∧ (¬ v_27 = (-1) → Ev E m_mo_change 53 [(0, .ref 55), (1, .int x1), (2, .int v_27), (3, .int (v_27 + 1))] [] X_22 (0, 0) Q))))) ∧ ((gI X_7 55 44) = 200 → Q (some (.int (-3))) X_7)))))) ∧ ((iw x1 0 ((gI X 55 37) - 1)) = false → Q (some (.int (-1))) X))) : Ev E m_mo_change 0 [(0, .ref 55), (1, .int x1)] [] X (0, 0) Q := by
  refine ev_aload_n (x := 55) (pc := 0) d_mo_change_0 rfl ?_
  refine ev_iload_n (x := x1) (pc := 1) d_mo_change_1 rfl ?_
  refine ev_callV (z := m_mo_isSector) (as := [.int x1]) (rest := []) (pc := 2) d_mo_change_2 (ly_at hX 55 rfl) lt13_12 rfl l_mo_267 i_mo_isSector v_mo_isSector o_mo_isSector rfl rfl (Nat.le_of_ble_eq_true rfl) rfl (Nat.le_of_ble_eq_true rfl) ⟨Nat.le_of_ble_eq_true rfl, Nat.le_of_ble_eq_true rfl⟩ (s_mo_isSector hX x1 ) (fun r X1 hq => ?_)
  obtain ⟨rfl, rfl⟩ := hq
  show Ev E m_mo_change 5 [(0, .ref 55), (1, .int x1)] [.int (bz (iw x1 0 ((gI X 55 37) - 1)))] X (0, 0) Q
  refine ev_ifz_ne (pc := 5) (tgt := 10) d_mo_change_5 (by decide) (fun c_1 => ?_) (fun c_1 => ?_)
  · have h_2 := hh.1 c_1
    refine ev_aload_n (x := 55) (pc := 10) d_mo_change_10 rfl ?_
    refine ev_iload_n (x := x1) (pc := 11) d_mo_change_11 rfl ?_
    obtain ⟨Qz_4, hc_5, hk_6⟩ := h_2
    refine ev_callV (z := m_mo_whyNot) (as := [.int x1]) (rest := []) (pc := 12) d_mo_change_12 (ly_at hX 55 rfl) lt13_12 rfl l_mo_295 i_mo_whyNot v_mo_whyNot o_mo_whyNot rfl rfl (Nat.le_of_ble_eq_true rfl) rfl (Nat.le_of_ble_eq_true rfl) ⟨Nat.le_of_ble_eq_true rfl, Nat.le_of_ble_eq_true rfl⟩ hc_5 (fun r_8 X_7 hq_9 => ?_)
    obtain ⟨v_12, rfl, hX_11, h_10⟩ := hk_6 _ _ hq_9
    show Ev E m_mo_change 15 [(0, .ref 55), (1, .int x1)] [.int v_12] X_7 (0, 0) Q
    refine ev_if_ne (pc := 15) (tgt := 28) d_mo_change_15 (by decide) (fun c_13 => ?_) (fun c_13 => ?_)
    · have h_14 := h_10.1 c_13
      refine ev_bipush (v := (-3)) (pc := 28) d_mo_change_28 kc_b_m3 ?_
      exact ev_iret (pc := 30) ⟨Nat.le_of_ble_eq_true rfl, Nat.le_of_ble_eq_true rfl⟩ d_mo_change_30 rfl (vp_nar_int _) h_14
    · have h_15 := h_10.2 c_13
      refine ev_aload_n (x := 55) (pc := 18) d_mo_change_18 rfl ?_
      refine ev_getJ (v := (gI X_7 55 44)) (pc := 19) d_mo_change_19 f_mo_274 (ly_at hX_11 55 rfl) gg_12 rfl rfl ?_
      refine ev_sipush (v := 200) (pc := 22) d_mo_change_22 kc_s_200 ?_
      refine ev_icmp_ne (pc := 25) (tgt := 31) d_mo_change_25 (by decide) (fun c_16 => ?_) (fun c_16 => ?_)
      · have h_17 := h_15.1 c_16
        refine ev_aload_n (x := 55) (pc := 31) d_mo_change_31 rfl ?_
        refine ev_getR (pc := 32) d_mo_change_32 f_mo_105 (ly_at hX_11 55 rfl) gg_12 rfl (ly_rf hX_11 55 39 rfl) ?_
        refine ev_iload_n (x := x1) (pc := 35) d_mo_change_35 rfl ?_
        refine ev_iconst (v := 1) (pc := 36) d_mo_change_36 kc_i_1 ?_
        refine ev_zast (pc := 37) d_mo_change_37 (ly_at hX_11 86 rfl) h_17.1 nb_1 ?_
        refine ev_aload_n (x := 55) (pc := 38) d_mo_change_38 rfl ?_
        refine ev_iload_n (x := x1) (pc := 39) d_mo_change_39 rfl ?_
        obtain ⟨Qz_19, hc_20, hk_21⟩ := h_17.2
        refine ev_callV (z := m_mo_placeInPlan) (as := [.int x1]) (rest := []) (pc := 40) d_mo_change_40 (ly_at (ly_sI hX_11) 55 rfl) lt13_12 rfl l_mo_313 i_mo_placeInPlan v_mo_placeInPlan o_mo_placeInPlan rfl rfl (Nat.le_of_ble_eq_true rfl) rfl (Nat.le_of_ble_eq_true rfl) ⟨Nat.le_of_ble_eq_true rfl, Nat.le_of_ble_eq_true rfl⟩ hc_20 (fun r_23 X_22 hq_24 => ?_)
        obtain ⟨v_27, rfl, hX_26, h_25⟩ := hk_21 _ _ hq_24
        show Ev E m_mo_change 43 [(0, .ref 55), (1, .int x1)] [.int v_27] X_22 (0, 0) Q
        refine ev_istore_n (L2 := [(0, .ref 55), (1, .int x1), (2, .int v_27)]) (pc := 43) d_mo_change_43 rfl (Nat.le_of_ble_eq_true rfl) rfl ?_
        refine ev_iload_n (x := v_27) (pc := 44) d_mo_change_44 rfl ?_
        refine ev_iconst (v := (-1)) (pc := 45) d_mo_change_45 kc_i_m1 ?_
        refine ev_icmp_eq (pc := 46) (tgt := 91) d_mo_change_46 (by decide) (fun c_28 => ?_) (fun c_28 => ?_)
        · have h_29 := h_25.1 c_28
          refine ev_iconst (v := 0) (pc := 91) d_mo_change_91 kc_i_0 ?_
          refine ev_istore_n (L2 := [(0, .ref 55), (1, .int x1), (2, .int v_27), (3, .int 0)]) (pc := 92) d_mo_change_92 rfl (Nat.le_of_ble_eq_true rfl) rfl ?_
          exact h_29
        · have h_30 := h_25.2 c_28
          refine ev_iload_n (x := v_27) (pc := 49) d_mo_change_49 rfl ?_
          refine ev_iconst (v := 1) (pc := 50) d_mo_change_50 kc_i_1 ?_
          refine ev_iadd (pc := 51) d_mo_change_51 ?_
          refine ev_istore_n (L2 := [(0, .ref 55), (1, .int x1), (2, .int v_27), (3, .int (v_27 + 1))]) (pc := 52) d_mo_change_52 rfl (Nat.le_of_ble_eq_true rfl) rfl ?_
          exact h_30
      · have h_18 := h_15.2 c_16
        refine ev_bipush (v := (-3)) (pc := 28) d_mo_change_28 kc_b_m3 ?_
        exact ev_iret (pc := 30) ⟨Nat.le_of_ble_eq_true rfl, Nat.le_of_ble_eq_true rfl⟩ d_mo_change_30 rfl (vp_nar_int _) h_18
  · have h_3 := hh.2 c_1
    refine ev_iconst (v := (-1)) (pc := 8) d_mo_change_8 kc_i_m1 ?_
    exact ev_iret (pc := 9) ⟨Nat.le_of_ble_eq_true rfl, Nat.le_of_ble_eq_true rfl⟩ d_mo_change_9 rfl (vp_nar_int _) h_3
theorem b_mo_change_53 {E : gp_E} {S : gp_S} {X : gp_H} {Q : Option Value → gp_H → Prop} {x1 : Int32} {x2 : Int32} {x3 : Int32} (hX : Lay S X)  (hh : (((gI X 55 40) ≤ x3 → Ev E m_mo_change 93 [(0, .ref 55), (1, .int x1), (2, .int x2), (3, .int 0)] [] (gp_sI X 55 40 ((gI X 55 40) - 1)) (0, 0) Q) ∧ (¬ (gI X 55 40) ≤ x3 → (vp_in x3 7 ∧ (vp_in (x3 - 1) 7 ∧ Ev E m_mo_change 53 [(0, .ref 55), (1, .int x1), (2, .int x2), (3, .int (x3 + 1))] [] (gp_sI X 87 (Int32.toNatClampNeg (x3 - 1)) (gI X 87 (Int32.toNatClampNeg x3))) (0, 0) Q))))) : Ev E m_mo_change 53 [(0, .ref 55), (1, .int x1), (2, .int x2), (3, .int x3)] [] X (0, 0) Q := by
  refine ev_iload_n (x := x3) (pc := 53) d_mo_change_53 rfl ?_
  refine ev_aload_n (x := 55) (pc := 54) d_mo_change_54 rfl ?_
  refine ev_getJ (v := (gI X 55 40)) (pc := 55) d_mo_change_55 f_mo_310 (ly_at hX 55 rfl) gg_12 rfl rfl ?_
  refine ev_icmp_ge (pc := 58) (tgt := 81) d_mo_change_58 (by decide) (fun c_1 => ?_) (fun c_1 => ?_)
  · have h_2 := hh.1 c_1
    refine ev_aload_n (x := 55) (pc := 81) d_mo_change_81 rfl ?_
    refine ev_dup (pc := 82) d_mo_change_82 rfl ?_
    refine ev_getJ (v := (gI X 55 40)) (pc := 83) d_mo_change_83 f_mo_310 (ly_at hX 55 rfl) gg_12 rfl rfl ?_
    refine ev_iconst (v := 1) (pc := 86) d_mo_change_86 kc_i_1 ?_
    refine ev_isub (pc := 87) d_mo_change_87 ?_
    refine ev_putI (pc := 88) d_mo_change_88 f_mo_310 (ly_at hX 55 rfl) gg_12 rfl (Or.inl rfl) (vp_nar_int _) rfl ?_
    refine ev_iconst (v := 0) (pc := 91) d_mo_change_91 kc_i_0 ?_
    refine ev_istore_n (L2 := [(0, .ref 55), (1, .int x1), (2, .int x2), (3, .int 0)]) (pc := 92) d_mo_change_92 rfl (Nat.le_of_ble_eq_true rfl) rfl ?_
    exact h_2
  · have h_3 := hh.2 c_1
    refine ev_aload_n (x := 55) (pc := 61) d_mo_change_61 rfl ?_
    refine ev_getR (pc := 62) d_mo_change_62 f_mo_108 (ly_at hX 55 rfl) gg_12 rfl (ly_rf hX 55 41 rfl) ?_
    refine ev_iload_n (x := x3) (pc := 65) d_mo_change_65 rfl ?_
    refine ev_iconst (v := 1) (pc := 66) d_mo_change_66 kc_i_1 ?_
    refine ev_isub (pc := 67) d_mo_change_67 ?_
    refine ev_aload_n (x := 55) (pc := 68) d_mo_change_68 rfl ?_
    refine ev_getR (pc := 69) d_mo_change_69 f_mo_108 (ly_at hX 55 rfl) gg_12 rfl (ly_rf hX 55 41 rfl) ?_
    refine ev_iload_n (x := x3) (pc := 72) d_mo_change_72 rfl ?_
    refine ev_ialdJ (v := (gI X 87 (Int32.toNatClampNeg x3))) (pc := 73) d_mo_change_73 (ly_at hX 87 rfl) h_3.1 rfl ?_
    refine ev_iast (pc := 74) d_mo_change_74 (ly_at hX 87 rfl) h_3.2.1 ?_
    refine ev_iinc (v := (x3 + 1)) (L2 := [(0, .ref 55), (1, .int x1), (2, .int x2), (3, .int (x3 + 1))]) (pc := 75) d_mo_change_75 rfl (by rw [kc_i_1]) rfl (Nat.le_of_ble_eq_true rfl) rfl ?_
    refine ev_goto (pc := 78) (tgt := 53) d_mo_change_78 (by decide) ?_
    exact h_3.2.2
theorem b_mo_change_93 {E : gp_E} {S : gp_S} {X : gp_H} {Q : Option Value → gp_H → Prop} {x1 : Int32} {x2 : Int32} {x3 : Int32} (hX : Lay S X)  (hh : (((gI X 55 6) ≤ x3 → (∃ Qz_4, Ev E m_mo_done 0 [(0, .ref 55)] [] X (0, 0) Qz_4 ∧ ∀ r X_7, Qz_4 r X_7 → ∃ v_12 : Int32, r = some (.int v_12) ∧ Lay S X_7 ∧ Ev E m_mo_change 153 [(0, .ref 55), (1, .int x1), (2, .int x2), (3, .int v_12), (4, .int 0)] [] X_7 (0, 0) Q)) ∧ (¬ (gI X 55 6) ≤ x3 → (vp_in x3 5 ∧ (((gI X 63 (Int32.toNatClampNeg x3)) = 0 → Ev E m_mo_change 93 [(0, .ref 55), (1, .int x1), (2, .int x2), (3, .int (x3 + 1))] [] (gp_sI X 63 (Int32.toNatClampNeg x3) 0) (0, 0) Q) ∧ (¬ (gI X 63 (Int32.toNatClampNeg x3)) = 0 → (vp_in x1 7 ∧ (((gb (gI X 85 (Int32.toNatClampNeg x1)) (gI X 60 (Int32.toNatClampNeg x3))) = true → Ev E m_mo_change 93 [(0, .ref 55), (1, .int x1), (2, .int x2), (3, .int (x3 + 1))] [] (gp_sI X 63 (Int32.toNatClampNeg x3) 0) (0, 0) Q) ∧ ((gb (gI X 85 (Int32.toNatClampNeg x1)) (gI X 60 (Int32.toNatClampNeg x3))) = false → Ev E m_mo_change 93 [(0, .ref 55), (1, .int x1), (2, .int x2), (3, .int (x3 + 1))] [] (gp_sI X 63 (Int32.toNatClampNeg x3) 1) (0, 0) Q))))))))) : Ev E m_mo_change 93 [(0, .ref 55), (1, .int x1), (2, .int x2), (3, .int x3)] [] X (0, 0) Q := by
  refine ev_iload_n (x := x3) (pc := 93) d_mo_change_93 rfl ?_
  refine ev_aload_n (x := 55) (pc := 94) d_mo_change_94 rfl ?_
  refine ev_getJ (v := (gI X 55 6)) (pc := 95) d_mo_change_95 f_mo_219 (ly_at hX 55 rfl) gg_12 rfl rfl ?_
  refine ev_icmp_ge (pc := 98) (tgt := 145) d_mo_change_98 (by decide) (fun c_1 => ?_) (fun c_1 => ?_)
  · have h_2 := hh.1 c_1
    refine ev_aload_n (x := 55) (pc := 145) d_mo_change_145 rfl ?_
    obtain ⟨Qz_4, hc_5, hk_6⟩ := h_2
    refine ev_callV (z := m_mo_done) (as := []) (rest := []) (pc := 146) d_mo_change_146 (ly_at hX 55 rfl) lt13_12 rfl l_mo_286 i_mo_done v_mo_done o_mo_done rfl rfl (Nat.le_of_ble_eq_true rfl) rfl (Nat.le_of_ble_eq_true rfl) ⟨Nat.le_of_ble_eq_true rfl, Nat.le_of_ble_eq_true rfl⟩ hc_5 (fun r_8 X_7 hq_9 => ?_)
    obtain ⟨v_12, rfl, hX_11, h_10⟩ := hk_6 _ _ hq_9
    show Ev E m_mo_change 149 [(0, .ref 55), (1, .int x1), (2, .int x2), (3, .int x3)] [.int v_12] X_7 (0, 0) Q
    refine ev_istore_n (L2 := [(0, .ref 55), (1, .int x1), (2, .int x2), (3, .int v_12)]) (pc := 149) d_mo_change_149 rfl (Nat.le_of_ble_eq_true rfl) rfl ?_
    refine ev_iconst (v := 0) (pc := 150) d_mo_change_150 kc_i_0 ?_
    refine ev_istore (L2 := [(0, .ref 55), (1, .int x1), (2, .int x2), (3, .int v_12), (4, .int 0)]) (pc := 151) d_mo_change_151 rfl (Nat.le_of_ble_eq_true rfl) rfl ?_
    exact h_10
  · have h_3 := hh.2 c_1
    refine ev_aload_n (x := 55) (pc := 101) d_mo_change_101 rfl ?_
    refine ev_getR (pc := 102) d_mo_change_102 f_mo_32 (ly_at hX 55 rfl) gg_12 rfl (ly_rf hX 55 10 rfl) ?_
    refine ev_iload_n (x := x3) (pc := 105) d_mo_change_105 rfl ?_
    refine ev_aload_n (x := 55) (pc := 106) d_mo_change_106 rfl ?_
    refine ev_getR (pc := 107) d_mo_change_107 f_mo_32 (ly_at hX 55 rfl) gg_12 rfl (ly_rf hX 55 10 rfl) ?_
    refine ev_iload_n (x := x3) (pc := 110) d_mo_change_110 rfl ?_
    refine ev_zaldJ (v := (gI X 63 (Int32.toNatClampNeg x3))) (pc := 111) d_mo_change_111 (ly_at hX 63 rfl) h_3.1 rfl ?_
    refine ev_if_eq (pc := 112) (tgt := 137) d_mo_change_112 (by decide) (fun c_13 => ?_) (fun c_13 => ?_)
    · have h_14 := h_3.2.1 c_13
      refine ev_iconst (v := 0) (pc := 137) d_mo_change_137 kc_i_0 ?_
      refine ev_zast (pc := 138) d_mo_change_138 (ly_at hX 63 rfl) h_3.1 nb_0 ?_
      refine ev_iinc (v := (x3 + 1)) (L2 := [(0, .ref 55), (1, .int x1), (2, .int x2), (3, .int (x3 + 1))]) (pc := 139) d_mo_change_139 rfl (by rw [kc_i_1]) rfl (Nat.le_of_ble_eq_true rfl) rfl ?_
      refine ev_goto (pc := 142) (tgt := 93) d_mo_change_142 (by decide) ?_
      exact h_14
    · have h_15 := h_3.2.2 c_13
      refine ev_aload_n (x := 55) (pc := 115) d_mo_change_115 rfl ?_
      refine ev_getR (pc := 116) d_mo_change_116 f_mo_102 (ly_at hX 55 rfl) gg_12 rfl (ly_rf hX 55 38 rfl) ?_
      refine ev_iload_n (x := x1) (pc := 119) d_mo_change_119 rfl ?_
      refine ev_ialdJ (v := (gI X 85 (Int32.toNatClampNeg x1))) (pc := 120) d_mo_change_120 (ly_at hX 85 rfl) h_15.1 rfl ?_
      refine ev_aload_n (x := 55) (pc := 121) d_mo_change_121 rfl ?_
      refine ev_getR (pc := 122) d_mo_change_122 f_mo_23 (ly_at hX 55 rfl) gg_12 rfl (ly_rf hX 55 7 rfl) ?_
      refine ev_iload_n (x := x3) (pc := 125) d_mo_change_125 rfl ?_
      refine ev_ialdJ (v := (gI X 60 (Int32.toNatClampNeg x3))) (pc := 126) d_mo_change_126 (ly_at hX 60 rfl) h_3.1 rfl ?_
      refine ev_callS (z := m_mo_has) (as := [.int (gI X 85 (Int32.toNatClampNeg x1)), .int (gI X 60 (Int32.toNatClampNeg x3))]) (rest := [.int x3, .ref 63]) (pc := 127) d_mo_change_127 l_mo_222 i_mo_has o_mo_has rfl rfl (Nat.le_of_ble_eq_true rfl) rfl (Nat.le_of_ble_eq_true rfl) ⟨Nat.le_of_ble_eq_true rfl, Nat.le_of_ble_eq_true rfl⟩ (s_mo_has hX (gI X 85 (Int32.toNatClampNeg x1)) (gI X 60 (Int32.toNatClampNeg x3))) (fun r X1 hq => ?_)
      obtain ⟨rfl, rfl⟩ := hq
      show Ev E m_mo_change 130 [(0, .ref 55), (1, .int x1), (2, .int x2), (3, .int x3)] [.int (bz (gb (gI X 85 (Int32.toNatClampNeg x1)) (gI X 60 (Int32.toNatClampNeg x3)))), .int x3, .ref 63] X (0, 0) Q
      refine ev_ifz_ne (pc := 130) (tgt := 137) d_mo_change_130 (by decide) (fun c_16 => ?_) (fun c_16 => ?_)
      · have h_17 := h_15.2.1 c_16
        refine ev_iconst (v := 0) (pc := 137) d_mo_change_137 kc_i_0 ?_
        refine ev_zast (pc := 138) d_mo_change_138 (ly_at hX 63 rfl) h_3.1 nb_0 ?_
        refine ev_iinc (v := (x3 + 1)) (L2 := [(0, .ref 55), (1, .int x1), (2, .int x2), (3, .int (x3 + 1))]) (pc := 139) d_mo_change_139 rfl (by rw [kc_i_1]) rfl (Nat.le_of_ble_eq_true rfl) rfl ?_
        refine ev_goto (pc := 142) (tgt := 93) d_mo_change_142 (by decide) ?_
        exact h_17
      · have h_18 := h_15.2.2 c_16
        refine ev_iconst (v := 1) (pc := 133) d_mo_change_133 kc_i_1 ?_
        refine ev_goto (pc := 134) (tgt := 138) d_mo_change_134 (by decide) ?_
        refine ev_zast (pc := 138) d_mo_change_138 (ly_at hX 63 rfl) h_3.1 nb_1 ?_
        refine ev_iinc (v := (x3 + 1)) (L2 := [(0, .ref 55), (1, .int x1), (2, .int x2), (3, .int (x3 + 1))]) (pc := 139) d_mo_change_139 rfl (by rw [kc_i_1]) rfl (Nat.le_of_ble_eq_true rfl) rfl ?_
        refine ev_goto (pc := 142) (tgt := 93) d_mo_change_142 (by decide) ?_
        exact h_18
theorem b_mo_change_153 {E : gp_E} {S : gp_S} {X : gp_H} {Q : Option Value → gp_H → Prop} {x1 : Int32} {x2 : Int32} {x3 : Int32} {x4 : Int32} (hX : Lay S X)  (hh : (((gI X 55 1) ≤ x4 → Ev E m_mo_change 234 [(0, .ref 55), (1, .int x1), (2, .int x2), (3, .int x3), (4, .int 0), (5, .int 0)] [] X (0, 0) Q) ∧ (¬ (gI X 55 1) ≤ x4 → (vp_in x4 20 ∧ (((gI X 58 (Int32.toNatClampNeg x4)) = 0 → Ev E m_mo_change 153 [(0, .ref 55), (1, .int x1), (2, .int x2), (3, .int x3), (4, .int (x4 + 1))] [] X (0, 0) Q) ∧ (¬ (gI X 58 (Int32.toNatClampNeg x4)) = 0 → (((gb x3 (gI X 56 (Int32.toNatClampNeg x4))) = true → Ev E m_mo_change 200 [(0, .ref 55), (1, .int x1), (2, .int x2), (3, .int x3), (4, .int x4)] [] X (0, 0) Q) ∧ ((gb x3 (gI X 56 (Int32.toNatClampNeg x4))) = false → (((gb x3 (gI X 57 (Int32.toNatClampNeg x4))) = false → Ev E m_mo_change 153 [(0, .ref 55), (1, .int x1), (2, .int x2), (3, .int x3), (4, .int (x4 + 1))] [] X (0, 0) Q) ∧ ((gb x3 (gI X 57 (Int32.toNatClampNeg x4))) = true → Ev E m_mo_change 200 [(0, .ref 55), (1, .int x1), (2, .int x2), (3, .int x3), (4, .int x4)] [] X (0, 0) Q)))))))))) : Ev E m_mo_change 153 [(0, .ref 55), (1, .int x1), (2, .int x2), (3, .int x3), (4, .int x4)] [] X (0, 0) Q := by
  refine ev_iload (x := x4) (pc := 153) d_mo_change_153 rfl ?_
  refine ev_aload_n (x := 55) (pc := 155) d_mo_change_155 rfl ?_
  refine ev_getJ (v := (gI X 55 1)) (pc := 156) d_mo_change_156 f_mo_216 (ly_at hX 55 rfl) gg_12 rfl rfl ?_
  refine ev_icmp_ge (pc := 159) (tgt := 228) d_mo_change_159 (by decide) (fun c_1 => ?_) (fun c_1 => ?_)
  · have h_2 := hh.1 c_1
    refine ev_iconst (v := 0) (pc := 228) d_mo_change_228 kc_i_0 ?_
    refine ev_istore (L2 := [(0, .ref 55), (1, .int x1), (2, .int x2), (3, .int x3), (4, .int 0)]) (pc := 229) d_mo_change_229 rfl (Nat.le_of_ble_eq_true rfl) rfl ?_
    refine ev_iconst (v := 0) (pc := 231) d_mo_change_231 kc_i_0 ?_
    refine ev_istore (L2 := [(0, .ref 55), (1, .int x1), (2, .int x2), (3, .int x3), (4, .int 0), (5, .int 0)]) (pc := 232) d_mo_change_232 rfl (Nat.le_of_ble_eq_true rfl) rfl ?_
    exact h_2
  · have h_3 := hh.2 c_1
    refine ev_aload_n (x := 55) (pc := 162) d_mo_change_162 rfl ?_
    refine ev_getR (pc := 163) d_mo_change_163 f_mo_16 (ly_at hX 55 rfl) gg_12 rfl (ly_rf hX 55 4 rfl) ?_
    refine ev_iload (x := x4) (pc := 166) d_mo_change_166 rfl ?_
    refine ev_zaldJ (v := (gI X 58 (Int32.toNatClampNeg x4))) (pc := 168) d_mo_change_168 (ly_at hX 58 rfl) h_3.1 rfl ?_
    refine ev_if_eq (pc := 169) (tgt := 222) d_mo_change_169 (by decide) (fun c_4 => ?_) (fun c_4 => ?_)
    · have h_5 := h_3.2.1 c_4
      refine ev_iinc (v := (x4 + 1)) (L2 := [(0, .ref 55), (1, .int x1), (2, .int x2), (3, .int x3), (4, .int (x4 + 1))]) (pc := 222) d_mo_change_222 rfl (by rw [kc_i_1]) rfl (Nat.le_of_ble_eq_true rfl) rfl ?_
      refine ev_goto (pc := 225) (tgt := 153) d_mo_change_225 (by decide) ?_
      exact h_5
    · have h_6 := h_3.2.2 c_4
      refine ev_iload_n (x := x3) (pc := 172) d_mo_change_172 rfl ?_
      refine ev_aload_n (x := 55) (pc := 173) d_mo_change_173 rfl ?_
      refine ev_getR (pc := 174) d_mo_change_174 f_mo_7 (ly_at hX 55 rfl) gg_12 rfl (ly_rf hX 55 2 rfl) ?_
      refine ev_iload (x := x4) (pc := 177) d_mo_change_177 rfl ?_
      refine ev_ialdJ (v := (gI X 56 (Int32.toNatClampNeg x4))) (pc := 179) d_mo_change_179 (ly_at hX 56 rfl) h_3.1 rfl ?_
      refine ev_callS (z := m_mo_has) (as := [.int x3, .int (gI X 56 (Int32.toNatClampNeg x4))]) (rest := []) (pc := 180) d_mo_change_180 l_mo_222 i_mo_has o_mo_has rfl rfl (Nat.le_of_ble_eq_true rfl) rfl (Nat.le_of_ble_eq_true rfl) ⟨Nat.le_of_ble_eq_true rfl, Nat.le_of_ble_eq_true rfl⟩ (s_mo_has hX x3 (gI X 56 (Int32.toNatClampNeg x4))) (fun r X1 hq => ?_)
      obtain ⟨rfl, rfl⟩ := hq
      show Ev E m_mo_change 183 [(0, .ref 55), (1, .int x1), (2, .int x2), (3, .int x3), (4, .int x4)] [.int (bz (gb x3 (gI X 56 (Int32.toNatClampNeg x4))))] X (0, 0) Q
      refine ev_ifz_ne (pc := 183) (tgt := 200) d_mo_change_183 (by decide) (fun c_7 => ?_) (fun c_7 => ?_)
      · have h_8 := h_6.1 c_7
        exact h_8
      · have h_9 := h_6.2 c_7
        refine ev_iload_n (x := x3) (pc := 186) d_mo_change_186 rfl ?_
        refine ev_aload_n (x := 55) (pc := 187) d_mo_change_187 rfl ?_
        refine ev_getR (pc := 188) d_mo_change_188 f_mo_13 (ly_at hX 55 rfl) gg_12 rfl (ly_rf hX 55 3 rfl) ?_
        refine ev_iload (x := x4) (pc := 191) d_mo_change_191 rfl ?_
        refine ev_ialdJ (v := (gI X 57 (Int32.toNatClampNeg x4))) (pc := 193) d_mo_change_193 (ly_at hX 57 rfl) h_3.1 rfl ?_
        refine ev_callS (z := m_mo_has) (as := [.int x3, .int (gI X 57 (Int32.toNatClampNeg x4))]) (rest := []) (pc := 194) d_mo_change_194 l_mo_222 i_mo_has o_mo_has rfl rfl (Nat.le_of_ble_eq_true rfl) rfl (Nat.le_of_ble_eq_true rfl) ⟨Nat.le_of_ble_eq_true rfl, Nat.le_of_ble_eq_true rfl⟩ (s_mo_has hX x3 (gI X 57 (Int32.toNatClampNeg x4))) (fun r X1 hq => ?_)
        obtain ⟨rfl, rfl⟩ := hq
        show Ev E m_mo_change 197 [(0, .ref 55), (1, .int x1), (2, .int x2), (3, .int x3), (4, .int x4)] [.int (bz (gb x3 (gI X 57 (Int32.toNatClampNeg x4))))] X (0, 0) Q
        refine ev_ifz_eq (pc := 197) (tgt := 222) d_mo_change_197 (by decide) (fun c_10 => ?_) (fun c_10 => ?_)
        · have h_11 := h_9.1 c_10
          refine ev_iinc (v := (x4 + 1)) (L2 := [(0, .ref 55), (1, .int x1), (2, .int x2), (3, .int x3), (4, .int (x4 + 1))]) (pc := 222) d_mo_change_222 rfl (by rw [kc_i_1]) rfl (Nat.le_of_ble_eq_true rfl) rfl ?_
          refine ev_goto (pc := 225) (tgt := 153) d_mo_change_225 (by decide) ?_
          exact h_11
        · have h_12 := h_9.2 c_10
          exact h_12
theorem b_mo_change_200 {E : gp_E} {S : gp_S} {X : gp_H} {Q : Option Value → gp_H → Prop} {x1 : Int32} {x2 : Int32} {x3 : Int32} {x4 : Int32} (hX : Lay S X)  (hh : (∃ Qz_1, Ev E m_mo_isBorder 0 [(0, .ref 55), (1, .int x4), (2, .int x3)] [] X (0, 0) Qz_1 ∧ ∀ r X_4, Qz_1 r X_4 → ∃ v_9 : Int32, r = some (.int v_9) ∧ Lay S X_4 ∧ ((¬ v_9 = 0 → (vp_in x4 20 ∧ Ev E m_mo_change 153 [(0, .ref 55), (1, .int x1), (2, .int x2), (3, .int x3), (4, .int (x4 + 1))] [] (gp_sI X_4 59 (Int32.toNatClampNeg x4) 0) (0, 0) Q)) ∧ (v_9 = 0 → (vp_in x4 20 ∧ Ev E m_mo_change 153 [(0, .ref 55), (1, .int x1), (2, .int x2), (3, .int x3), (4, .int (x4 + 1))] [] (gp_sI X_4 59 (Int32.toNatClampNeg x4) 1) (0, 0) Q))))) : Ev E m_mo_change 200 [(0, .ref 55), (1, .int x1), (2, .int x2), (3, .int x3), (4, .int x4)] [] X (0, 0) Q := by
  refine ev_aload_n (x := 55) (pc := 200) d_mo_change_200 rfl ?_
  refine ev_getR (pc := 201) d_mo_change_201 f_mo_20 (ly_at hX 55 rfl) gg_12 rfl (ly_rf hX 55 5 rfl) ?_
  refine ev_iload (x := x4) (pc := 204) d_mo_change_204 rfl ?_
  refine ev_aload_n (x := 55) (pc := 206) d_mo_change_206 rfl ?_
  refine ev_iload (x := x4) (pc := 207) d_mo_change_207 rfl ?_
  refine ev_iload_n (x := x3) (pc := 209) d_mo_change_209 rfl ?_
  obtain ⟨Qz_1, hc_2, hk_3⟩ := hh
  refine ev_callV (z := m_mo_isBorder) (as := [.int x4, .int x3]) (rest := [.int x4, .ref 59]) (pc := 210) d_mo_change_210 (ly_at hX 55 rfl) lt13_12 rfl l_mo_280 i_mo_isBorder v_mo_isBorder o_mo_isBorder rfl rfl (Nat.le_of_ble_eq_true rfl) rfl (Nat.le_of_ble_eq_true rfl) ⟨Nat.le_of_ble_eq_true rfl, Nat.le_of_ble_eq_true rfl⟩ hc_2 (fun r_5 X_4 hq_6 => ?_)
  obtain ⟨v_9, rfl, hX_8, h_7⟩ := hk_3 _ _ hq_6
  show Ev E m_mo_change 213 [(0, .ref 55), (1, .int x1), (2, .int x2), (3, .int x3), (4, .int x4)] [.int v_9, .int x4, .ref 59] X_4 (0, 0) Q
  refine ev_if_ne (pc := 213) (tgt := 220) d_mo_change_213 (by decide) (fun c_10 => ?_) (fun c_10 => ?_)
  · have h_11 := h_7.1 c_10
    refine ev_iconst (v := 0) (pc := 220) d_mo_change_220 kc_i_0 ?_
    refine ev_zast (pc := 221) d_mo_change_221 (ly_at hX_8 59 rfl) h_11.1 nb_0 ?_
    refine ev_iinc (v := (x4 + 1)) (L2 := [(0, .ref 55), (1, .int x1), (2, .int x2), (3, .int x3), (4, .int (x4 + 1))]) (pc := 222) d_mo_change_222 rfl (by rw [kc_i_1]) rfl (Nat.le_of_ble_eq_true rfl) rfl ?_
    refine ev_goto (pc := 225) (tgt := 153) d_mo_change_225 (by decide) ?_
    exact h_11.2
  · have h_12 := h_7.2 c_10
    refine ev_iconst (v := 1) (pc := 216) d_mo_change_216 kc_i_1 ?_
    refine ev_goto (pc := 217) (tgt := 221) d_mo_change_217 (by decide) ?_
    refine ev_zast (pc := 221) d_mo_change_221 (ly_at hX_8 59 rfl) h_12.1 nb_1 ?_
    refine ev_iinc (v := (x4 + 1)) (L2 := [(0, .ref 55), (1, .int x1), (2, .int x2), (3, .int x3), (4, .int (x4 + 1))]) (pc := 222) d_mo_change_222 rfl (by rw [kc_i_1]) rfl (Nat.le_of_ble_eq_true rfl) rfl ?_
    refine ev_goto (pc := 225) (tgt := 153) d_mo_change_225 (by decide) ?_
    exact h_12.2
theorem b_mo_change_234 {E : gp_E} {S : gp_S} {X : gp_H} {Q : Option Value → gp_H → Prop} {x1 : Int32} {x2 : Int32} {x3 : Int32} {x4 : Int32} {x5 : Int32} (hX : Lay S X)  (hh : ((5 ≤ x5 → Ev E m_mo_change 281 [(0, .ref 55), (1, .int x1), (2, .int x2), (3, .int x3), (4, .int x4), (5, .int 0)] [] X (0, 0) Q) ∧ (¬ 5 ≤ x5 → Ev E m_mo_change 243 [(0, .ref 55), (1, .int x1), (2, .int x2), (3, .int x3), (4, .int x4), (5, .int x5), (6, .int 0)] [] X (0, 0) Q))) : Ev E m_mo_change 234 [(0, .ref 55), (1, .int x1), (2, .int x2), (3, .int x3), (4, .int x4), (5, .int x5)] [] X (0, 0) Q := by
  refine ev_iload (x := x5) (pc := 234) d_mo_change_234 rfl ?_
  refine ev_iconst (v := 5) (pc := 236) d_mo_change_236 kc_i_5 ?_
  refine ev_icmp_ge (pc := 237) (tgt := 278) d_mo_change_237 (by decide) (fun c_1 => ?_) (fun c_1 => ?_)
  · have h_2 := hh.1 c_1
    refine ev_iconst (v := 0) (pc := 278) d_mo_change_278 kc_i_0 ?_
    refine ev_istore (L2 := [(0, .ref 55), (1, .int x1), (2, .int x2), (3, .int x3), (4, .int x4), (5, .int 0)]) (pc := 279) d_mo_change_279 rfl (Nat.le_of_ble_eq_true rfl) rfl ?_
    exact h_2
  · have h_3 := hh.2 c_1
    refine ev_iconst (v := 0) (pc := 240) d_mo_change_240 kc_i_0 ?_
    refine ev_istore (L2 := [(0, .ref 55), (1, .int x1), (2, .int x2), (3, .int x3), (4, .int x4), (5, .int x5), (6, .int 0)]) (pc := 241) d_mo_change_241 rfl (Nat.le_of_ble_eq_true rfl) rfl ?_
    exact h_3
theorem b_mo_change_243 {E : gp_E} {S : gp_S} {X : gp_H} {Q : Option Value → gp_H → Prop} {x1 : Int32} {x2 : Int32} {x3 : Int32} {x4 : Int32} {x5 : Int32} {x6 : Int32} (hX : Lay S X)  (hh : (((gI X 55 45) ≤ x6 → Ev E m_mo_change 234 [(0, .ref 55), (1, .int x1), (2, .int x2), (3, .int x3), (4, .int x4), (5, .int (x5 + 1))] [] X (0, 0) Q) ∧ (¬ (gI X 55 45) ≤ x6 → (∃ Qz_4, Ev E m_mo_fits 0 [(0, .ref 55), (1, .int x1), (2, .int x6), (3, .int x5)] [] X (0, 0) Qz_4 ∧ ∀ r X_7, Qz_4 r X_7 → ∃ v_12 : Int32, r = some (.int v_12) ∧ Lay S X_7 ∧ Ev E m_mo_change 243 [(0, .ref 55), (1, .int x1), (2, .int x2), (3, .int x3), (4, .int (x4 + v_12)), (5, .int x5), (6, .int (x6 + 1))] [] X_7 (0, 0) Q)))) : Ev E m_mo_change 243 [(0, .ref 55), (1, .int x1), (2, .int x2), (3, .int x3), (4, .int x4), (5, .int x5), (6, .int x6)] [] X (0, 0) Q := by
  refine ev_iload (x := x6) (pc := 243) d_mo_change_243 rfl ?_
  refine ev_aload_n (x := 55) (pc := 245) d_mo_change_245 rfl ?_
  refine ev_getJ (v := (gI X 55 45)) (pc := 246) d_mo_change_246 f_mo_209 (ly_at hX 55 rfl) gg_12 rfl rfl ?_
  refine ev_icmp_ge (pc := 249) (tgt := 272) d_mo_change_249 (by decide) (fun c_1 => ?_) (fun c_1 => ?_)
  · have h_2 := hh.1 c_1
    refine ev_iinc (v := (x5 + 1)) (L2 := [(0, .ref 55), (1, .int x1), (2, .int x2), (3, .int x3), (4, .int x4), (5, .int (x5 + 1)), (6, .int x6)]) (pc := 272) d_mo_change_272 rfl (by rw [kc_i_1]) rfl (Nat.le_of_ble_eq_true rfl) rfl ?_
    refine ev_goto (pc := 275) (tgt := 234) d_mo_change_275 (by decide) ?_
    exact ev_sub [(0, .ref 55), (1, .int x1), (2, .int x2), (3, .int x3), (4, .int x4), (5, .int (x5 + 1))] (List.forall_mem_cons.mpr ⟨rfl, (List.forall_mem_cons.mpr ⟨rfl, (List.forall_mem_cons.mpr ⟨rfl, (List.forall_mem_cons.mpr ⟨rfl, (List.forall_mem_cons.mpr ⟨rfl, (List.forall_mem_cons.mpr ⟨rfl, (fun _ h => nomatch h)⟩)⟩)⟩)⟩)⟩)⟩) h_2
  · have h_3 := hh.2 c_1
    refine ev_iload (x := x4) (pc := 252) d_mo_change_252 rfl ?_
    refine ev_aload_n (x := 55) (pc := 254) d_mo_change_254 rfl ?_
    refine ev_iload_n (x := x1) (pc := 255) d_mo_change_255 rfl ?_
    refine ev_iload (x := x6) (pc := 256) d_mo_change_256 rfl ?_
    refine ev_iload (x := x5) (pc := 258) d_mo_change_258 rfl ?_
    obtain ⟨Qz_4, hc_5, hk_6⟩ := h_3
    refine ev_callV (z := m_mo_fits) (as := [.int x1, .int x6, .int x5]) (rest := [.int x4]) (pc := 260) d_mo_change_260 (ly_at hX 55 rfl) lt13_12 rfl l_mo_323 i_mo_fits v_mo_fits o_mo_fits rfl rfl (Nat.le_of_ble_eq_true rfl) rfl (Nat.le_of_ble_eq_true rfl) ⟨Nat.le_of_ble_eq_true rfl, Nat.le_of_ble_eq_true rfl⟩ hc_5 (fun r_8 X_7 hq_9 => ?_)
    obtain ⟨v_12, rfl, hX_11, h_10⟩ := hk_6 _ _ hq_9
    show Ev E m_mo_change 263 [(0, .ref 55), (1, .int x1), (2, .int x2), (3, .int x3), (4, .int x4), (5, .int x5), (6, .int x6)] [.int v_12, .int x4] X_7 (0, 0) Q
    refine ev_iadd (pc := 263) d_mo_change_263 ?_
    refine ev_istore (L2 := [(0, .ref 55), (1, .int x1), (2, .int x2), (3, .int x3), (4, .int (x4 + v_12)), (5, .int x5), (6, .int x6)]) (pc := 264) d_mo_change_264 rfl (Nat.le_of_ble_eq_true rfl) rfl ?_
    refine ev_iinc (v := (x6 + 1)) (L2 := [(0, .ref 55), (1, .int x1), (2, .int x2), (3, .int x3), (4, .int (x4 + v_12)), (5, .int x5), (6, .int (x6 + 1))]) (pc := 266) d_mo_change_266 rfl (by rw [kc_i_1]) rfl (Nat.le_of_ble_eq_true rfl) rfl ?_
    refine ev_goto (pc := 269) (tgt := 243) d_mo_change_269 (by decide) ?_
    exact h_10
theorem b_mo_change_281 {E : gp_E} {S : gp_S} {X : gp_H} {Q : Option Value → gp_H → Prop} {x1 : Int32} {x2 : Int32} {x3 : Int32} {x4 : Int32} {x5 : Int32} (hX : Lay S X)  (hh : (((gI X 55 19) ≤ x5 → (∃ Qz_4, Ev E m_mo_ends 0 [(0, .ref 55)] [] X (0, 0) Qz_4 ∧ ∀ r X_7, Qz_4 r X_7 → (r = none ∧ Lay S X_7 ∧ Q (some (.int x4)) X_7))) ∧ (¬ (gI X 55 19) ≤ x5 → (vp_in x5 40 ∧ ((¬ (gI X 74 (Int32.toNatClampNeg x5)) = 0 → Ev E m_mo_change 329 [(0, .ref 55), (1, .int x1), (2, .int x2), (3, .int x3), (4, .int x4), (5, .int x5)] [.int x5, .ref 74] X (0, 0) Q) ∧ ((gI X 74 (Int32.toNatClampNeg x5)) = 0 → (vp_in x1 7 ∧ (((gb (gI X 85 (Int32.toNatClampNeg x1)) (gI X 70 (Int32.toNatClampNeg x5))) = false → Ev E m_mo_change 329 [(0, .ref 55), (1, .int x1), (2, .int x2), (3, .int x3), (4, .int x4), (5, .int x5)] [.int x5, .ref 74] X (0, 0) Q) ∧ ((gb (gI X 85 (Int32.toNatClampNeg x1)) (gI X 70 (Int32.toNatClampNeg x5))) = true → Ev E m_mo_change 281 [(0, .ref 55), (1, .int x1), (2, .int x2), (3, .int x3), (4, .int x4), (5, .int (x5 + 1))] [] (gp_sI X 74 (Int32.toNatClampNeg x5) 2) (0, 0) Q))))))))) : Ev E m_mo_change 281 [(0, .ref 55), (1, .int x1), (2, .int x2), (3, .int x3), (4, .int x4), (5, .int x5)] [] X (0, 0) Q := by
  refine ev_iload (x := x5) (pc := 281) d_mo_change_281 rfl ?_
  refine ev_aload_n (x := 55) (pc := 283) d_mo_change_283 rfl ?_
  refine ev_getJ (v := (gI X 55 19)) (pc := 284) d_mo_change_284 f_mo_200 (ly_at hX 55 rfl) gg_12 rfl rfl ?_
  refine ev_icmp_ge (pc := 287) (tgt := 343) d_mo_change_287 (by decide) (fun c_1 => ?_) (fun c_1 => ?_)
  · have h_2 := hh.1 c_1
    refine ev_aload_n (x := 55) (pc := 343) d_mo_change_343 rfl ?_
    obtain ⟨Qz_4, hc_5, hk_6⟩ := h_2
    refine ev_callV (z := m_mo_ends) (as := []) (rest := []) (pc := 344) d_mo_change_344 (ly_at hX 55 rfl) lt13_12 rfl l_mo_327 i_mo_ends v_mo_ends o_mo_ends rfl rfl (Nat.le_of_ble_eq_true rfl) rfl (Nat.le_of_ble_eq_true rfl) ⟨Nat.le_of_ble_eq_true rfl, Nat.le_of_ble_eq_true rfl⟩ hc_5 (fun r_8 X_7 hq_9 => ?_)
    obtain ⟨rfl, hX_11, h_10⟩ := hk_6 _ _ hq_9
    show Ev E m_mo_change 347 [(0, .ref 55), (1, .int x1), (2, .int x2), (3, .int x3), (4, .int x4), (5, .int x5)] [] X_7 (0, 0) Q
    refine ev_iload (x := x4) (pc := 347) d_mo_change_347 rfl ?_
    exact ev_iret (pc := 349) ⟨Nat.le_of_ble_eq_true rfl, Nat.le_of_ble_eq_true rfl⟩ d_mo_change_349 rfl (vp_nar_int _) h_10
  · have h_3 := hh.2 c_1
    refine ev_aload_n (x := 55) (pc := 290) d_mo_change_290 rfl ?_
    refine ev_getR (pc := 291) d_mo_change_291 f_mo_69 (ly_at hX 55 rfl) gg_12 rfl (ly_rf hX 55 24 rfl) ?_
    refine ev_iload (x := x5) (pc := 294) d_mo_change_294 rfl ?_
    refine ev_aload_n (x := 55) (pc := 296) d_mo_change_296 rfl ?_
    refine ev_getR (pc := 297) d_mo_change_297 f_mo_69 (ly_at hX 55 rfl) gg_12 rfl (ly_rf hX 55 24 rfl) ?_
    refine ev_iload (x := x5) (pc := 300) d_mo_change_300 rfl ?_
    refine ev_ialdJ (v := (gI X 74 (Int32.toNatClampNeg x5))) (pc := 302) d_mo_change_302 (ly_at hX 74 rfl) h_3.1 rfl ?_
    refine ev_if_ne (pc := 303) (tgt := 329) d_mo_change_303 (by decide) (fun c_12 => ?_) (fun c_12 => ?_)
    · have h_13 := h_3.2.1 c_12
      exact h_13
    · have h_14 := h_3.2.2 c_12
      refine ev_aload_n (x := 55) (pc := 306) d_mo_change_306 rfl ?_
      refine ev_getR (pc := 307) d_mo_change_307 f_mo_102 (ly_at hX 55 rfl) gg_12 rfl (ly_rf hX 55 38 rfl) ?_
      refine ev_iload_n (x := x1) (pc := 310) d_mo_change_310 rfl ?_
      refine ev_ialdJ (v := (gI X 85 (Int32.toNatClampNeg x1))) (pc := 311) d_mo_change_311 (ly_at hX 85 rfl) h_14.1 rfl ?_
      refine ev_aload_n (x := 55) (pc := 312) d_mo_change_312 rfl ?_
      refine ev_getR (pc := 313) d_mo_change_313 f_mo_57 (ly_at hX 55 rfl) gg_12 rfl (ly_rf hX 55 20 rfl) ?_
      refine ev_iload (x := x5) (pc := 316) d_mo_change_316 rfl ?_
      refine ev_ialdJ (v := (gI X 70 (Int32.toNatClampNeg x5))) (pc := 318) d_mo_change_318 (ly_at hX 70 rfl) h_3.1 rfl ?_
      refine ev_callS (z := m_mo_has) (as := [.int (gI X 85 (Int32.toNatClampNeg x1)), .int (gI X 70 (Int32.toNatClampNeg x5))]) (rest := [.int x5, .ref 74]) (pc := 319) d_mo_change_319 l_mo_222 i_mo_has o_mo_has rfl rfl (Nat.le_of_ble_eq_true rfl) rfl (Nat.le_of_ble_eq_true rfl) ⟨Nat.le_of_ble_eq_true rfl, Nat.le_of_ble_eq_true rfl⟩ (s_mo_has hX (gI X 85 (Int32.toNatClampNeg x1)) (gI X 70 (Int32.toNatClampNeg x5))) (fun r X1 hq => ?_)
      obtain ⟨rfl, rfl⟩ := hq
      show Ev E m_mo_change 322 [(0, .ref 55), (1, .int x1), (2, .int x2), (3, .int x3), (4, .int x4), (5, .int x5)] [.int (bz (gb (gI X 85 (Int32.toNatClampNeg x1)) (gI X 70 (Int32.toNatClampNeg x5)))), .int x5, .ref 74] X (0, 0) Q
      refine ev_ifz_eq (pc := 322) (tgt := 329) d_mo_change_322 (by decide) (fun c_15 => ?_) (fun c_15 => ?_)
      · have h_16 := h_14.2.1 c_15
        exact h_16
      · have h_17 := h_14.2.2 c_15
        refine ev_iconst (v := 2) (pc := 325) d_mo_change_325 kc_i_2 ?_
        refine ev_goto (pc := 326) (tgt := 336) d_mo_change_326 (by decide) ?_
        refine ev_iast (pc := 336) d_mo_change_336 (ly_at hX 74 rfl) h_3.1 ?_
        refine ev_iinc (v := (x5 + 1)) (L2 := [(0, .ref 55), (1, .int x1), (2, .int x2), (3, .int x3), (4, .int x4), (5, .int (x5 + 1))]) (pc := 337) d_mo_change_337 rfl (by rw [kc_i_1]) rfl (Nat.le_of_ble_eq_true rfl) rfl ?_
        refine ev_goto (pc := 340) (tgt := 281) d_mo_change_340 (by decide) ?_
        exact h_17
theorem b_mo_change_329 {E : gp_E} {S : gp_S} {X : gp_H} {Q : Option Value → gp_H → Prop} {x1 : Int32} {x2 : Int32} {x3 : Int32} {x4 : Int32} {x5 : Int32} {t0 : Int32} (hX : Lay S X)  (hh : (vp_in x5 40 ∧ (vp_in t0 40 ∧ Ev E m_mo_change 281 [(0, .ref 55), (1, .int x1), (2, .int x2), (3, .int x3), (4, .int x4), (5, .int (x5 + 1))] [] (gp_sI X 74 (Int32.toNatClampNeg t0) (gI X 74 (Int32.toNatClampNeg x5))) (0, 0) Q))) : Ev E m_mo_change 329 [(0, .ref 55), (1, .int x1), (2, .int x2), (3, .int x3), (4, .int x4), (5, .int x5)] [.int t0, .ref 74] X (0, 0) Q := by
  refine ev_aload_n (x := 55) (pc := 329) d_mo_change_329 rfl ?_
  refine ev_getR (pc := 330) d_mo_change_330 f_mo_69 (ly_at hX 55 rfl) gg_12 rfl (ly_rf hX 55 24 rfl) ?_
  refine ev_iload (x := x5) (pc := 333) d_mo_change_333 rfl ?_
  refine ev_ialdJ (v := (gI X 74 (Int32.toNatClampNeg x5))) (pc := 335) d_mo_change_335 (ly_at hX 74 rfl) hh.1 rfl ?_
  refine ev_iast (pc := 336) d_mo_change_336 (ly_at hX 74 rfl) hh.2.1 ?_
  refine ev_iinc (v := (x5 + 1)) (L2 := [(0, .ref 55), (1, .int x1), (2, .int x2), (3, .int x3), (4, .int x4), (5, .int (x5 + 1))]) (pc := 337) d_mo_change_337 rfl (by rw [kc_i_1]) rfl (Nat.le_of_ble_eq_true rfl) rfl ?_
  refine ev_goto (pc := 340) (tgt := 281) d_mo_change_340 (by decide) ?_
  exact hh.2.2
theorem b_mo_fits_0 {E : gp_E} {S : gp_S} {X : gp_H} {Q : Option Value → gp_H → Prop} {x1 : Int32} {x2 : Int32} {x3 : Int32} (hX : Lay S X)  (hh : (vp_in x2 8 ∧ Ev E m_mo_fits 14 [(0, .ref 55), (1, .int x1), (2, .int x2), (3, .int x3), (4, .int (gI X 90 (Int32.toNatClampNeg x2))), (5, .int 0), (6, .int 0)] [] X (0, 0) Q)) : Ev E m_mo_fits 0 [(0, .ref 55), (1, .int x1), (2, .int x2), (3, .int x3)] [] X (0, 0) Q := by
  refine ev_aload_n (x := 55) (pc := 0) d_mo_fits_0 rfl ?_
  refine ev_getR (pc := 1) d_mo_fits_1 f_mo_117 (ly_at hX 55 rfl) gg_12 rfl (ly_rf hX 55 47 rfl) ?_
  refine ev_iload_n (x := x2) (pc := 4) d_mo_fits_4 rfl ?_
  refine ev_ialdJ (v := (gI X 90 (Int32.toNatClampNeg x2))) (pc := 5) d_mo_fits_5 (ly_at hX 90 rfl) hh.1 rfl ?_
  refine ev_istore (L2 := [(0, .ref 55), (1, .int x1), (2, .int x2), (3, .int x3), (4, .int (gI X 90 (Int32.toNatClampNeg x2)))]) (pc := 6) d_mo_fits_6 rfl (Nat.le_of_ble_eq_true rfl) rfl ?_
  refine ev_iconst (v := 0) (pc := 8) d_mo_fits_8 kc_i_0 ?_
  refine ev_istore (L2 := [(0, .ref 55), (1, .int x1), (2, .int x2), (3, .int x3), (4, .int (gI X 90 (Int32.toNatClampNeg x2))), (5, .int 0)]) (pc := 9) d_mo_fits_9 rfl (Nat.le_of_ble_eq_true rfl) rfl ?_
  refine ev_iconst (v := 0) (pc := 11) d_mo_fits_11 kc_i_0 ?_
  refine ev_istore (L2 := [(0, .ref 55), (1, .int x1), (2, .int x2), (3, .int x3), (4, .int (gI X 90 (Int32.toNatClampNeg x2))), (5, .int 0), (6, .int 0)]) (pc := 12) d_mo_fits_12 rfl (Nat.le_of_ble_eq_true rfl) rfl ?_
  exact hh.2
theorem b_mo_fits_14 {E : gp_E} {S : gp_S} {X : gp_H} {Q : Option Value → gp_H → Prop} {x1 : Int32} {x2 : Int32} {x3 : Int32} {x4 : Int32} {x5 : Int32} {x6 : Int32} (hX : Lay S X)  (hh : (((gI X 55 19) ≤ x6 → Q (some (.int x5)) X) ∧ (¬ (gI X 55 19) ≤ x6 → (vp_in x6 40 ∧ ((¬ (gI X 74 (Int32.toNatClampNeg x6)) = 0 → Ev E m_mo_fits 70 [(0, .ref 55), (1, .int x1), (2, .int x2), (3, .int x3), (4, .int x4), (5, .int x5), (6, .int x6)] [] X (0, 0) Q) ∧ ((gI X 74 (Int32.toNatClampNeg x6)) = 0 → (vp_in x1 7 ∧ (((gb (gI X 85 (Int32.toNatClampNeg x1)) (gI X 70 (Int32.toNatClampNeg x6))) = false → Ev E m_mo_fits 70 [(0, .ref 55), (1, .int x1), (2, .int x2), (3, .int x3), (4, .int x4), (5, .int x5), (6, .int x6)] [] X (0, 0) Q) ∧ ((gb (gI X 85 (Int32.toNatClampNeg x1)) (gI X 70 (Int32.toNatClampNeg x6))) = true → (((gb (gI X 72 (Int32.toNatClampNeg x6)) x3) = false → Ev E m_mo_fits 70 [(0, .ref 55), (1, .int x1), (2, .int x2), (3, .int x3), (4, .int x4), (5, .int x5), (6, .int x6)] [] X (0, 0) Q) ∧ ((gb (gI X 72 (Int32.toNatClampNeg x6)) x3) = true → Ev E m_mo_fits 71 [(0, .ref 55), (1, .int x1), (2, .int x2), (3, .int x3), (4, .int x4), (5, .int x5), (6, .int x6)] [.int 1] X (0, 0) Q))))))))))) : Ev E m_mo_fits 14 [(0, .ref 55), (1, .int x1), (2, .int x2), (3, .int x3), (4, .int x4), (5, .int x5), (6, .int x6)] [] X (0, 0) Q := by
  refine ev_iload (x := x6) (pc := 14) d_mo_fits_14 rfl ?_
  refine ev_aload_n (x := 55) (pc := 16) d_mo_fits_16 rfl ?_
  refine ev_getJ (v := (gI X 55 19)) (pc := 17) d_mo_fits_17 f_mo_200 (ly_at hX 55 rfl) gg_12 rfl rfl ?_
  refine ev_icmp_ge (pc := 20) (tgt := 139) d_mo_fits_20 (by decide) (fun c_1 => ?_) (fun c_1 => ?_)
  · have h_2 := hh.1 c_1
    refine ev_iload (x := x5) (pc := 139) d_mo_fits_139 rfl ?_
    exact ev_iret (pc := 141) ⟨Nat.le_of_ble_eq_true rfl, Nat.le_of_ble_eq_true rfl⟩ d_mo_fits_141 rfl (vp_nar_int _) h_2
  · have h_3 := hh.2 c_1
    refine ev_aload_n (x := 55) (pc := 23) d_mo_fits_23 rfl ?_
    refine ev_getR (pc := 24) d_mo_fits_24 f_mo_69 (ly_at hX 55 rfl) gg_12 rfl (ly_rf hX 55 24 rfl) ?_
    refine ev_iload (x := x6) (pc := 27) d_mo_fits_27 rfl ?_
    refine ev_ialdJ (v := (gI X 74 (Int32.toNatClampNeg x6))) (pc := 29) d_mo_fits_29 (ly_at hX 74 rfl) h_3.1 rfl ?_
    refine ev_if_ne (pc := 30) (tgt := 70) d_mo_fits_30 (by decide) (fun c_4 => ?_) (fun c_4 => ?_)
    · have h_5 := h_3.2.1 c_4
      exact h_5
    · have h_6 := h_3.2.2 c_4
      refine ev_aload_n (x := 55) (pc := 33) d_mo_fits_33 rfl ?_
      refine ev_getR (pc := 34) d_mo_fits_34 f_mo_102 (ly_at hX 55 rfl) gg_12 rfl (ly_rf hX 55 38 rfl) ?_
      refine ev_iload_n (x := x1) (pc := 37) d_mo_fits_37 rfl ?_
      refine ev_ialdJ (v := (gI X 85 (Int32.toNatClampNeg x1))) (pc := 38) d_mo_fits_38 (ly_at hX 85 rfl) h_6.1 rfl ?_
      refine ev_aload_n (x := 55) (pc := 39) d_mo_fits_39 rfl ?_
      refine ev_getR (pc := 40) d_mo_fits_40 f_mo_57 (ly_at hX 55 rfl) gg_12 rfl (ly_rf hX 55 20 rfl) ?_
      refine ev_iload (x := x6) (pc := 43) d_mo_fits_43 rfl ?_
      refine ev_ialdJ (v := (gI X 70 (Int32.toNatClampNeg x6))) (pc := 45) d_mo_fits_45 (ly_at hX 70 rfl) h_3.1 rfl ?_
      refine ev_callS (z := m_mo_has) (as := [.int (gI X 85 (Int32.toNatClampNeg x1)), .int (gI X 70 (Int32.toNatClampNeg x6))]) (rest := []) (pc := 46) d_mo_fits_46 l_mo_222 i_mo_has o_mo_has rfl rfl (Nat.le_of_ble_eq_true rfl) rfl (Nat.le_of_ble_eq_true rfl) ⟨Nat.le_of_ble_eq_true rfl, Nat.le_of_ble_eq_true rfl⟩ (s_mo_has hX (gI X 85 (Int32.toNatClampNeg x1)) (gI X 70 (Int32.toNatClampNeg x6))) (fun r X1 hq => ?_)
      obtain ⟨rfl, rfl⟩ := hq
      show Ev E m_mo_fits 49 [(0, .ref 55), (1, .int x1), (2, .int x2), (3, .int x3), (4, .int x4), (5, .int x5), (6, .int x6)] [.int (bz (gb (gI X 85 (Int32.toNatClampNeg x1)) (gI X 70 (Int32.toNatClampNeg x6))))] X (0, 0) Q
      refine ev_ifz_eq (pc := 49) (tgt := 70) d_mo_fits_49 (by decide) (fun c_7 => ?_) (fun c_7 => ?_)
      · have h_8 := h_6.2.1 c_7
        exact h_8
      · have h_9 := h_6.2.2 c_7
        refine ev_aload_n (x := 55) (pc := 52) d_mo_fits_52 rfl ?_
        refine ev_getR (pc := 53) d_mo_fits_53 f_mo_63 (ly_at hX 55 rfl) gg_12 rfl (ly_rf hX 55 22 rfl) ?_
        refine ev_iload (x := x6) (pc := 56) d_mo_fits_56 rfl ?_
        refine ev_ialdJ (v := (gI X 72 (Int32.toNatClampNeg x6))) (pc := 58) d_mo_fits_58 (ly_at hX 72 rfl) h_3.1 rfl ?_
        refine ev_iload_n (x := x3) (pc := 59) d_mo_fits_59 rfl ?_
        refine ev_callS (z := m_mo_has) (as := [.int (gI X 72 (Int32.toNatClampNeg x6)), .int x3]) (rest := []) (pc := 60) d_mo_fits_60 l_mo_222 i_mo_has o_mo_has rfl rfl (Nat.le_of_ble_eq_true rfl) rfl (Nat.le_of_ble_eq_true rfl) ⟨Nat.le_of_ble_eq_true rfl, Nat.le_of_ble_eq_true rfl⟩ (s_mo_has hX (gI X 72 (Int32.toNatClampNeg x6)) x3) (fun r X1 hq => ?_)
        obtain ⟨rfl, rfl⟩ := hq
        show Ev E m_mo_fits 63 [(0, .ref 55), (1, .int x1), (2, .int x2), (3, .int x3), (4, .int x4), (5, .int x5), (6, .int x6)] [.int (bz (gb (gI X 72 (Int32.toNatClampNeg x6)) x3))] X (0, 0) Q
        refine ev_ifz_eq (pc := 63) (tgt := 70) d_mo_fits_63 (by decide) (fun c_10 => ?_) (fun c_10 => ?_)
        · have h_11 := h_9.1 c_10
          exact h_11
        · have h_12 := h_9.2 c_10
          refine ev_iconst (v := 1) (pc := 66) d_mo_fits_66 kc_i_1 ?_
          refine ev_goto (pc := 67) (tgt := 71) d_mo_fits_67 (by decide) ?_
          exact h_12
theorem b_mo_fits_70 {E : gp_E} {S : gp_S} {X : gp_H} {Q : Option Value → gp_H → Prop} {x1 : Int32} {x2 : Int32} {x3 : Int32} {x4 : Int32} {x5 : Int32} {x6 : Int32} (hX : Lay S X)  (hh : Ev E m_mo_fits 71 [(0, .ref 55), (1, .int x1), (2, .int x2), (3, .int x3), (4, .int x4), (5, .int x5), (6, .int x6)] [.int 0] X (0, 0) Q) : Ev E m_mo_fits 70 [(0, .ref 55), (1, .int x1), (2, .int x2), (3, .int x3), (4, .int x4), (5, .int x5), (6, .int x6)] [] X (0, 0) Q := by
  refine ev_iconst (v := 0) (pc := 70) d_mo_fits_70 kc_i_0 ?_
  exact hh
theorem b_mo_fits_71 {E : gp_E} {S : gp_S} {X : gp_H} {Q : Option Value → gp_H → Prop} {x1 : Int32} {x2 : Int32} {x3 : Int32} {x4 : Int32} {x5 : Int32} {x6 : Int32} {t0 : Int32} (hX : Lay S X)  (hh : ((t0 = 0 → Ev E m_mo_fits 14 [(0, .ref 55), (1, .int x1), (2, .int x2), (3, .int x3), (4, .int x4), (5, .int x5), (6, .int (x6 + 1))] [] X (0, 0) Q) ∧ (¬ t0 = 0 → (∃ Qz_4, Ev E m_mo_canFit 0 [(0, .ref 55), (1, .int x6), (2, .int x2)] [] X (0, 0) Qz_4 ∧ ∀ r X_7, Qz_4 r X_7 → ∃ v_12 : Int32, r = some (.int v_12) ∧ Lay S X_7 ∧ ((v_12 = 0 → Ev E m_mo_fits 14 [(0, .ref 55), (1, .int x1), (2, .int x2), (3, .int x3), (4, .int x4), (5, .int x5), (6, .int (x6 + 1))] [] X_7 (0, 0) Q) ∧ (¬ v_12 = 0 → (vp_in x6 40 ∧ (vp_in (gI X_7 73 (Int32.toNatClampNeg x6)) 12 ∧ ((x4 < (gI X_7 68 (Int32.toNatClampNeg (gI X_7 73 (Int32.toNatClampNeg x6)))) → Ev E m_mo_fits 14 [(0, .ref 55), (1, .int x1), (2, .int x2), (3, .int x3), (4, .int x4), (5, .int x5), (6, .int (x6 + 1))] [] X_7 (0, 0) Q) ∧ (¬ x4 < (gI X_7 68 (Int32.toNatClampNeg (gI X_7 73 (Int32.toNatClampNeg x6)))) → (∃ Qz_19, Ev E m_mo_changes 0 [(0, .ref 55), (1, .int x6), (2, .int x2), (3, .int x3)] [] X_7 (0, 0) Qz_19 ∧ ∀ r X_22, Qz_19 r X_22 → (r = none ∧ Lay S X_22 ∧ Ev E m_mo_fits 14 [(0, .ref 55), (1, .int x1), (2, .int x2), (3, .int x3), (4, .int (x4 - (gI X_7 68 (Int32.toNatClampNeg (gI X_7 73 (Int32.toNatClampNeg x6)))))), (5, .int (x5 + 1)), (6, .int (x6 + 1))] [] X_22 (0, 0) Q)))))))))))) : Ev E m_mo_fits 71 [(0, .ref 55), (1, .int x1), (2, .int x2), (3, .int x3), (4, .int x4), (5, .int x5), (6, .int x6)] [.int t0] X (0, 0) Q := by
  refine ev_istore (L2 := [(0, .ref 55), (1, .int x1), (2, .int x2), (3, .int x3), (4, .int x4), (5, .int x5), (6, .int x6), (7, .int t0)]) (pc := 71) d_mo_fits_71 rfl (Nat.le_of_ble_eq_true rfl) rfl ?_
  refine ev_iload (x := t0) (pc := 73) d_mo_fits_73 rfl ?_
  refine ev_if_eq (pc := 75) (tgt := 133) d_mo_fits_75 (by decide) (fun c_1 => ?_) (fun c_1 => ?_)
  · have h_2 := hh.1 c_1
    refine ev_iinc (v := (x6 + 1)) (L2 := [(0, .ref 55), (1, .int x1), (2, .int x2), (3, .int x3), (4, .int x4), (5, .int x5), (6, .int (x6 + 1)), (7, .int t0)]) (pc := 133) d_mo_fits_133 rfl (by rw [kc_i_1]) rfl (Nat.le_of_ble_eq_true rfl) rfl ?_
    refine ev_goto (pc := 136) (tgt := 14) d_mo_fits_136 (by decide) ?_
    exact ev_sub [(0, .ref 55), (1, .int x1), (2, .int x2), (3, .int x3), (4, .int x4), (5, .int x5), (6, .int (x6 + 1))] (List.forall_mem_cons.mpr ⟨rfl, (List.forall_mem_cons.mpr ⟨rfl, (List.forall_mem_cons.mpr ⟨rfl, (List.forall_mem_cons.mpr ⟨rfl, (List.forall_mem_cons.mpr ⟨rfl, (List.forall_mem_cons.mpr ⟨rfl, (List.forall_mem_cons.mpr ⟨rfl, (fun _ h => nomatch h)⟩)⟩)⟩)⟩)⟩)⟩)⟩) h_2
  · have h_3 := hh.2 c_1
    refine ev_aload_n (x := 55) (pc := 78) d_mo_fits_78 rfl ?_
    refine ev_iload (x := x6) (pc := 79) d_mo_fits_79 rfl ?_
    refine ev_iload_n (x := x2) (pc := 81) d_mo_fits_81 rfl ?_
    obtain ⟨Qz_4, hc_5, hk_6⟩ := h_3
    refine ev_callV (z := m_mo_canFit) (as := [.int x6, .int x2]) (rest := []) (pc := 82) d_mo_fits_82 (ly_at hX 55 rfl) lt13_12 rfl l_mo_316 i_mo_canFit v_mo_canFit o_mo_canFit rfl rfl (Nat.le_of_ble_eq_true rfl) rfl (Nat.le_of_ble_eq_true rfl) ⟨Nat.le_of_ble_eq_true rfl, Nat.le_of_ble_eq_true rfl⟩ hc_5 (fun r_8 X_7 hq_9 => ?_)
    obtain ⟨v_12, rfl, hX_11, h_10⟩ := hk_6 _ _ hq_9
    show Ev E m_mo_fits 85 [(0, .ref 55), (1, .int x1), (2, .int x2), (3, .int x3), (4, .int x4), (5, .int x5), (6, .int x6), (7, .int t0)] [.int v_12] X_7 (0, 0) Q
    refine ev_if_eq (pc := 85) (tgt := 133) d_mo_fits_85 (by decide) (fun c_13 => ?_) (fun c_13 => ?_)
    · have h_14 := h_10.1 c_13
      refine ev_iinc (v := (x6 + 1)) (L2 := [(0, .ref 55), (1, .int x1), (2, .int x2), (3, .int x3), (4, .int x4), (5, .int x5), (6, .int (x6 + 1)), (7, .int t0)]) (pc := 133) d_mo_fits_133 rfl (by rw [kc_i_1]) rfl (Nat.le_of_ble_eq_true rfl) rfl ?_
      refine ev_goto (pc := 136) (tgt := 14) d_mo_fits_136 (by decide) ?_
      exact ev_sub [(0, .ref 55), (1, .int x1), (2, .int x2), (3, .int x3), (4, .int x4), (5, .int x5), (6, .int (x6 + 1))] (List.forall_mem_cons.mpr ⟨rfl, (List.forall_mem_cons.mpr ⟨rfl, (List.forall_mem_cons.mpr ⟨rfl, (List.forall_mem_cons.mpr ⟨rfl, (List.forall_mem_cons.mpr ⟨rfl, (List.forall_mem_cons.mpr ⟨rfl, (List.forall_mem_cons.mpr ⟨rfl, (fun _ h => nomatch h)⟩)⟩)⟩)⟩)⟩)⟩)⟩) h_14
    · have h_15 := h_10.2 c_13
      refine ev_aload_n (x := 55) (pc := 88) d_mo_fits_88 rfl ?_
      refine ev_getR (pc := 89) d_mo_fits_89 f_mo_51 (ly_at hX_11 55 rfl) gg_12 rfl (ly_rf hX_11 55 17 rfl) ?_
      refine ev_aload_n (x := 55) (pc := 92) d_mo_fits_92 rfl ?_
      refine ev_getR (pc := 93) d_mo_fits_93 f_mo_66 (ly_at hX_11 55 rfl) gg_12 rfl (ly_rf hX_11 55 23 rfl) ?_
      refine ev_iload (x := x6) (pc := 96) d_mo_fits_96 rfl ?_
      refine ev_ialdJ (v := (gI X_7 73 (Int32.toNatClampNeg x6))) (pc := 98) d_mo_fits_98 (ly_at hX_11 73 rfl) h_15.1 rfl ?_
      refine ev_ialdJ (v := (gI X_7 68 (Int32.toNatClampNeg (gI X_7 73 (Int32.toNatClampNeg x6))))) (pc := 99) d_mo_fits_99 (ly_at hX_11 68 rfl) h_15.2.1 rfl ?_
      refine ev_iload (x := x4) (pc := 100) d_mo_fits_100 rfl ?_
      refine ev_icmp_gt (pc := 102) (tgt := 133) d_mo_fits_102 (by decide) (fun c_16 => ?_) (fun c_16 => ?_)
      · have h_17 := h_15.2.2.1 c_16
        refine ev_iinc (v := (x6 + 1)) (L2 := [(0, .ref 55), (1, .int x1), (2, .int x2), (3, .int x3), (4, .int x4), (5, .int x5), (6, .int (x6 + 1)), (7, .int t0)]) (pc := 133) d_mo_fits_133 rfl (by rw [kc_i_1]) rfl (Nat.le_of_ble_eq_true rfl) rfl ?_
        refine ev_goto (pc := 136) (tgt := 14) d_mo_fits_136 (by decide) ?_
        exact ev_sub [(0, .ref 55), (1, .int x1), (2, .int x2), (3, .int x3), (4, .int x4), (5, .int x5), (6, .int (x6 + 1))] (List.forall_mem_cons.mpr ⟨rfl, (List.forall_mem_cons.mpr ⟨rfl, (List.forall_mem_cons.mpr ⟨rfl, (List.forall_mem_cons.mpr ⟨rfl, (List.forall_mem_cons.mpr ⟨rfl, (List.forall_mem_cons.mpr ⟨rfl, (List.forall_mem_cons.mpr ⟨rfl, (fun _ h => nomatch h)⟩)⟩)⟩)⟩)⟩)⟩)⟩) h_17
      · have h_18 := h_15.2.2.2 c_16
        refine ev_iload (x := x4) (pc := 105) d_mo_fits_105 rfl ?_
        refine ev_aload_n (x := 55) (pc := 107) d_mo_fits_107 rfl ?_
        refine ev_getR (pc := 108) d_mo_fits_108 f_mo_51 (ly_at hX_11 55 rfl) gg_12 rfl (ly_rf hX_11 55 17 rfl) ?_
        refine ev_aload_n (x := 55) (pc := 111) d_mo_fits_111 rfl ?_
        refine ev_getR (pc := 112) d_mo_fits_112 f_mo_66 (ly_at hX_11 55 rfl) gg_12 rfl (ly_rf hX_11 55 23 rfl) ?_
        refine ev_iload (x := x6) (pc := 115) d_mo_fits_115 rfl ?_
        refine ev_ialdJ (v := (gI X_7 73 (Int32.toNatClampNeg x6))) (pc := 117) d_mo_fits_117 (ly_at hX_11 73 rfl) h_15.1 rfl ?_
        refine ev_ialdJ (v := (gI X_7 68 (Int32.toNatClampNeg (gI X_7 73 (Int32.toNatClampNeg x6))))) (pc := 118) d_mo_fits_118 (ly_at hX_11 68 rfl) h_15.2.1 rfl ?_
        refine ev_isub (pc := 119) d_mo_fits_119 ?_
        refine ev_istore (L2 := [(0, .ref 55), (1, .int x1), (2, .int x2), (3, .int x3), (4, .int (x4 - (gI X_7 68 (Int32.toNatClampNeg (gI X_7 73 (Int32.toNatClampNeg x6)))))), (5, .int x5), (6, .int x6), (7, .int t0)]) (pc := 120) d_mo_fits_120 rfl (Nat.le_of_ble_eq_true rfl) rfl ?_
        refine ev_aload_n (x := 55) (pc := 122) d_mo_fits_122 rfl ?_
        refine ev_iload (x := x6) (pc := 123) d_mo_fits_123 rfl ?_
        refine ev_iload_n (x := x2) (pc := 125) d_mo_fits_125 rfl ?_
        refine ev_iload_n (x := x3) (pc := 126) d_mo_fits_126 rfl ?_
        obtain ⟨Qz_19, hc_20, hk_21⟩ := h_18
        refine ev_callV (z := m_mo_changes) (as := [.int x6, .int x2, .int x3]) (rest := []) (pc := 127) d_mo_fits_127 (ly_at hX_11 55 rfl) lt13_12 rfl l_mo_319 i_mo_changes v_mo_changes o_mo_changes rfl rfl (Nat.le_of_ble_eq_true rfl) rfl (Nat.le_of_ble_eq_true rfl) ⟨Nat.le_of_ble_eq_true rfl, Nat.le_of_ble_eq_true rfl⟩ hc_20 (fun r_23 X_22 hq_24 => ?_)
        obtain ⟨rfl, hX_26, h_25⟩ := hk_21 _ _ hq_24
        show Ev E m_mo_fits 130 [(0, .ref 55), (1, .int x1), (2, .int x2), (3, .int x3), (4, .int (x4 - (gI X_7 68 (Int32.toNatClampNeg (gI X_7 73 (Int32.toNatClampNeg x6)))))), (5, .int x5), (6, .int x6), (7, .int t0)] [] X_22 (0, 0) Q
        refine ev_iinc (v := (x5 + 1)) (L2 := [(0, .ref 55), (1, .int x1), (2, .int x2), (3, .int x3), (4, .int (x4 - (gI X_7 68 (Int32.toNatClampNeg (gI X_7 73 (Int32.toNatClampNeg x6)))))), (5, .int (x5 + 1)), (6, .int x6), (7, .int t0)]) (pc := 130) d_mo_fits_130 rfl (by rw [kc_i_1]) rfl (Nat.le_of_ble_eq_true rfl) rfl ?_
        refine ev_iinc (v := (x6 + 1)) (L2 := [(0, .ref 55), (1, .int x1), (2, .int x2), (3, .int x3), (4, .int (x4 - (gI X_7 68 (Int32.toNatClampNeg (gI X_7 73 (Int32.toNatClampNeg x6)))))), (5, .int (x5 + 1)), (6, .int (x6 + 1)), (7, .int t0)]) (pc := 133) d_mo_fits_133 rfl (by rw [kc_i_1]) rfl (Nat.le_of_ble_eq_true rfl) rfl ?_
        refine ev_goto (pc := 136) (tgt := 14) d_mo_fits_136 (by decide) ?_
        exact ev_sub [(0, .ref 55), (1, .int x1), (2, .int x2), (3, .int x3), (4, .int (x4 - (gI X_7 68 (Int32.toNatClampNeg (gI X_7 73 (Int32.toNatClampNeg x6)))))), (5, .int (x5 + 1)), (6, .int (x6 + 1))] (List.forall_mem_cons.mpr ⟨rfl, (List.forall_mem_cons.mpr ⟨rfl, (List.forall_mem_cons.mpr ⟨rfl, (List.forall_mem_cons.mpr ⟨rfl, (List.forall_mem_cons.mpr ⟨rfl, (List.forall_mem_cons.mpr ⟨rfl, (List.forall_mem_cons.mpr ⟨rfl, (fun _ h => nomatch h)⟩)⟩)⟩)⟩)⟩)⟩)⟩) h_25
theorem b_mo_canFit_0 {E : gp_E} {S : gp_S} {X : gp_H} {Q : Option Value → gp_H → Prop} {x1 : Int32} {x2 : Int32} (hX : Lay S X)  (hh : (vp_in x1 40 ∧ (vp_in x2 8 ∧ (vp_in (gI X 73 (Int32.toNatClampNeg x1)) 12 ∧ (((gb (gI X 89 (Int32.toNatClampNeg x2)) (gI X 69 (Int32.toNatClampNeg (gI X 73 (Int32.toNatClampNeg x1))))) = false → Q (some (.int 0)) X) ∧ ((gb (gI X 89 (Int32.toNatClampNeg x2)) (gI X 69 (Int32.toNatClampNeg (gI X 73 (Int32.toNatClampNeg x1))))) = true → (vp_in (gI X 66 (Int32.toNatClampNeg (gI X 73 (Int32.toNatClampNeg x1)))) 5 ∧ (((gI X 81 (Int32.toNatClampNeg (gI X 66 (Int32.toNatClampNeg (gI X 73 (Int32.toNatClampNeg x1)))))) < (gI X 67 (Int32.toNatClampNeg (gI X 73 (Int32.toNatClampNeg x1)))) → Q (some (.int 0)) X) ∧ (¬ (gI X 81 (Int32.toNatClampNeg (gI X 66 (Int32.toNatClampNeg (gI X 73 (Int32.toNatClampNeg x1)))))) < (gI X 67 (Int32.toNatClampNeg (gI X 73 (Int32.toNatClampNeg x1)))) → Q (some (.int 1)) X))))))))) : Ev E m_mo_canFit 0 [(0, .ref 55), (1, .int x1), (2, .int x2)] [] X (0, 0) Q := by
  refine ev_aload_n (x := 55) (pc := 0) d_mo_canFit_0 rfl ?_
  refine ev_getR (pc := 1) d_mo_canFit_1 f_mo_66 (ly_at hX 55 rfl) gg_12 rfl (ly_rf hX 55 23 rfl) ?_
  refine ev_iload_n (x := x1) (pc := 4) d_mo_canFit_4 rfl ?_
  refine ev_ialdJ (v := (gI X 73 (Int32.toNatClampNeg x1))) (pc := 5) d_mo_canFit_5 (ly_at hX 73 rfl) hh.1 rfl ?_
  refine ev_istore_n (L2 := [(0, .ref 55), (1, .int x1), (2, .int x2), (3, .int (gI X 73 (Int32.toNatClampNeg x1)))]) (pc := 6) d_mo_canFit_6 rfl (Nat.le_of_ble_eq_true rfl) rfl ?_
  refine ev_aload_n (x := 55) (pc := 7) d_mo_canFit_7 rfl ?_
  refine ev_getR (pc := 8) d_mo_canFit_8 f_mo_114 (ly_at hX 55 rfl) gg_12 rfl (ly_rf hX 55 46 rfl) ?_
  refine ev_iload_n (x := x2) (pc := 11) d_mo_canFit_11 rfl ?_
  refine ev_ialdJ (v := (gI X 89 (Int32.toNatClampNeg x2))) (pc := 12) d_mo_canFit_12 (ly_at hX 89 rfl) hh.2.1 rfl ?_
  refine ev_aload_n (x := 55) (pc := 13) d_mo_canFit_13 rfl ?_
  refine ev_getR (pc := 14) d_mo_canFit_14 f_mo_54 (ly_at hX 55 rfl) gg_12 rfl (ly_rf hX 55 18 rfl) ?_
  refine ev_iload_n (x := (gI X 73 (Int32.toNatClampNeg x1))) (pc := 17) d_mo_canFit_17 rfl ?_
  refine ev_ialdJ (v := (gI X 69 (Int32.toNatClampNeg (gI X 73 (Int32.toNatClampNeg x1))))) (pc := 18) d_mo_canFit_18 (ly_at hX 69 rfl) hh.2.2.1 rfl ?_
  refine ev_callS (z := m_mo_has) (as := [.int (gI X 89 (Int32.toNatClampNeg x2)), .int (gI X 69 (Int32.toNatClampNeg (gI X 73 (Int32.toNatClampNeg x1))))]) (rest := []) (pc := 19) d_mo_canFit_19 l_mo_222 i_mo_has o_mo_has rfl rfl (Nat.le_of_ble_eq_true rfl) rfl (Nat.le_of_ble_eq_true rfl) ⟨Nat.le_of_ble_eq_true rfl, Nat.le_of_ble_eq_true rfl⟩ (s_mo_has hX (gI X 89 (Int32.toNatClampNeg x2)) (gI X 69 (Int32.toNatClampNeg (gI X 73 (Int32.toNatClampNeg x1))))) (fun r X1 hq => ?_)
  obtain ⟨rfl, rfl⟩ := hq
  show Ev E m_mo_canFit 22 [(0, .ref 55), (1, .int x1), (2, .int x2), (3, .int (gI X 73 (Int32.toNatClampNeg x1)))] [.int (bz (gb (gI X 89 (Int32.toNatClampNeg x2)) (gI X 69 (Int32.toNatClampNeg (gI X 73 (Int32.toNatClampNeg x1))))))] X (0, 0) Q
  refine ev_ifz_eq (pc := 22) (tgt := 49) d_mo_canFit_22 (by decide) (fun c_1 => ?_) (fun c_1 => ?_)
  · have h_2 := hh.2.2.2.1 c_1
    refine ev_iconst (v := 0) (pc := 49) d_mo_canFit_49 kc_i_0 ?_
    exact ev_iret (pc := 50) ⟨Nat.le_of_ble_eq_true rfl, Nat.le_of_ble_eq_true rfl⟩ d_mo_canFit_50 rfl nb_0 h_2
  · have h_3 := hh.2.2.2.2 c_1
    refine ev_aload_n (x := 55) (pc := 25) d_mo_canFit_25 rfl ?_
    refine ev_getR (pc := 26) d_mo_canFit_26 f_mo_90 (ly_at hX 55 rfl) gg_12 rfl (ly_rf hX 55 32 rfl) ?_
    refine ev_aload_n (x := 55) (pc := 29) d_mo_canFit_29 rfl ?_
    refine ev_getR (pc := 30) d_mo_canFit_30 f_mo_45 (ly_at hX 55 rfl) gg_12 rfl (ly_rf hX 55 15 rfl) ?_
    refine ev_iload_n (x := (gI X 73 (Int32.toNatClampNeg x1))) (pc := 33) d_mo_canFit_33 rfl ?_
    refine ev_ialdJ (v := (gI X 66 (Int32.toNatClampNeg (gI X 73 (Int32.toNatClampNeg x1))))) (pc := 34) d_mo_canFit_34 (ly_at hX 66 rfl) hh.2.2.1 rfl ?_
    refine ev_ialdJ (v := (gI X 81 (Int32.toNatClampNeg (gI X 66 (Int32.toNatClampNeg (gI X 73 (Int32.toNatClampNeg x1))))))) (pc := 35) d_mo_canFit_35 (ly_at hX 81 rfl) h_3.1 rfl ?_
    refine ev_aload_n (x := 55) (pc := 36) d_mo_canFit_36 rfl ?_
    refine ev_getR (pc := 37) d_mo_canFit_37 f_mo_48 (ly_at hX 55 rfl) gg_12 rfl (ly_rf hX 55 16 rfl) ?_
    refine ev_iload_n (x := (gI X 73 (Int32.toNatClampNeg x1))) (pc := 40) d_mo_canFit_40 rfl ?_
    refine ev_ialdJ (v := (gI X 67 (Int32.toNatClampNeg (gI X 73 (Int32.toNatClampNeg x1))))) (pc := 41) d_mo_canFit_41 (ly_at hX 67 rfl) hh.2.2.1 rfl ?_
    refine ev_icmp_lt (pc := 42) (tgt := 49) d_mo_canFit_42 (by decide) (fun c_4 => ?_) (fun c_4 => ?_)
    · have h_5 := h_3.2.1 c_4
      refine ev_iconst (v := 0) (pc := 49) d_mo_canFit_49 kc_i_0 ?_
      exact ev_iret (pc := 50) ⟨Nat.le_of_ble_eq_true rfl, Nat.le_of_ble_eq_true rfl⟩ d_mo_canFit_50 rfl nb_0 h_5
    · have h_6 := h_3.2.2 c_4
      refine ev_iconst (v := 1) (pc := 45) d_mo_canFit_45 kc_i_1 ?_
      refine ev_goto (pc := 46) (tgt := 50) d_mo_canFit_46 (by decide) ?_
      exact ev_iret (pc := 50) ⟨Nat.le_of_ble_eq_true rfl, Nat.le_of_ble_eq_true rfl⟩ d_mo_canFit_50 rfl nb_1 h_6
theorem b_mo_changes_0 {E : gp_E} {S : gp_S} {X : gp_H} {Q : Option Value → gp_H → Prop} {x1 : Int32} {x2 : Int32} {x3 : Int32} (hX : Lay S X)  (hh : (vp_in x1 40 ∧ (vp_in (gI X 73 (Int32.toNatClampNeg x1)) 12 ∧ (vp_in (gI X 66 (Int32.toNatClampNeg (gI X 73 (Int32.toNatClampNeg x1)))) 5 ∧ Q none (gp_sI (gp_sI (gp_sI (gp_sI (gp_sI X 74 (Int32.toNatClampNeg x1) 1) 75 (Int32.toNatClampNeg x1) x2) 76 (Int32.toNatClampNeg x1) (gI X 55 44)) 77 (Int32.toNatClampNeg x1) x3) 81 (Int32.toNatClampNeg (gI X 66 (Int32.toNatClampNeg (gI X 73 (Int32.toNatClampNeg x1))))) ((gI X 81 (Int32.toNatClampNeg (gI X 66 (Int32.toNatClampNeg (gI X 73 (Int32.toNatClampNeg x1)))))) - (gI X 67 (Int32.toNatClampNeg (gI X 73 (Int32.toNatClampNeg x1)))))))))) : Ev E m_mo_changes 0 [(0, .ref 55), (1, .int x1), (2, .int x2), (3, .int x3)] [] X (0, 0) Q := by
  refine ev_aload_n (x := 55) (pc := 0) d_mo_changes_0 rfl ?_
  refine ev_getR (pc := 1) d_mo_changes_1 f_mo_69 (ly_at hX 55 rfl) gg_12 rfl (ly_rf hX 55 24 rfl) ?_
  refine ev_iload_n (x := x1) (pc := 4) d_mo_changes_4 rfl ?_
  refine ev_iconst (v := 1) (pc := 5) d_mo_changes_5 kc_i_1 ?_
  refine ev_iast (pc := 6) d_mo_changes_6 (ly_at hX 74 rfl) hh.1 ?_
  refine ev_aload_n (x := 55) (pc := 7) d_mo_changes_7 rfl ?_
  refine ev_getR (pc := 8) d_mo_changes_8 f_mo_72 (ly_at (ly_sI hX) 55 rfl) gg_12 rfl (ly_rf (ly_sI hX) 55 25 rfl) ?_
  refine ev_iload_n (x := x1) (pc := 11) d_mo_changes_11 rfl ?_
  refine ev_iload_n (x := x2) (pc := 12) d_mo_changes_12 rfl ?_
  refine ev_iast (pc := 13) d_mo_changes_13 (ly_at (ly_sI hX) 75 rfl) hh.1 ?_
  refine ev_aload_n (x := 55) (pc := 14) d_mo_changes_14 rfl ?_
  refine ev_getR (pc := 15) d_mo_changes_15 f_mo_75 (ly_at (ly_sI (ly_sI hX)) 55 rfl) gg_12 rfl (ly_rf (ly_sI (ly_sI hX)) 55 26 rfl) ?_
  refine ev_iload_n (x := x1) (pc := 18) d_mo_changes_18 rfl ?_
  refine ev_aload_n (x := 55) (pc := 19) d_mo_changes_19 rfl ?_
  refine ev_getJ (v := (gI X 55 44)) (pc := 20) d_mo_changes_20 f_mo_274 (ly_at (ly_sI (ly_sI hX)) 55 rfl) gg_12 rfl rfl ?_
  refine ev_iast (pc := 23) d_mo_changes_23 (ly_at (ly_sI (ly_sI hX)) 76 rfl) hh.1 ?_
  refine ev_aload_n (x := 55) (pc := 24) d_mo_changes_24 rfl ?_
  refine ev_getR (pc := 25) d_mo_changes_25 f_mo_78 (ly_at (ly_sI (ly_sI (ly_sI hX))) 55 rfl) gg_12 rfl (ly_rf (ly_sI (ly_sI (ly_sI hX))) 55 27 rfl) ?_
  refine ev_iload_n (x := x1) (pc := 28) d_mo_changes_28 rfl ?_
  refine ev_iload_n (x := x3) (pc := 29) d_mo_changes_29 rfl ?_
  refine ev_iast (pc := 30) d_mo_changes_30 (ly_at (ly_sI (ly_sI (ly_sI hX))) 77 rfl) hh.1 ?_
  refine ev_aload_n (x := 55) (pc := 31) d_mo_changes_31 rfl ?_
  refine ev_getR (pc := 32) d_mo_changes_32 f_mo_90 (ly_at (ly_sI (ly_sI (ly_sI (ly_sI hX)))) 55 rfl) gg_12 rfl (ly_rf (ly_sI (ly_sI (ly_sI (ly_sI hX)))) 55 32 rfl) ?_
  refine ev_aload_n (x := 55) (pc := 35) d_mo_changes_35 rfl ?_
  refine ev_getR (pc := 36) d_mo_changes_36 f_mo_45 (ly_at (ly_sI (ly_sI (ly_sI (ly_sI hX)))) 55 rfl) gg_12 rfl (ly_rf (ly_sI (ly_sI (ly_sI (ly_sI hX)))) 55 15 rfl) ?_
  refine ev_aload_n (x := 55) (pc := 39) d_mo_changes_39 rfl ?_
  refine ev_getR (pc := 40) d_mo_changes_40 f_mo_66 (ly_at (ly_sI (ly_sI (ly_sI (ly_sI hX)))) 55 rfl) gg_12 rfl (ly_rf (ly_sI (ly_sI (ly_sI (ly_sI hX)))) 55 23 rfl) ?_
  refine ev_iload_n (x := x1) (pc := 43) d_mo_changes_43 rfl ?_
  refine ev_ialdJ (v := (gI X 73 (Int32.toNatClampNeg x1))) (pc := 44) d_mo_changes_44 (ly_at (ly_sI (ly_sI (ly_sI (ly_sI hX)))) 73 rfl) hh.1 rfl ?_
  refine ev_ialdJ (v := (gI X 66 (Int32.toNatClampNeg (gI X 73 (Int32.toNatClampNeg x1))))) (pc := 45) d_mo_changes_45 (ly_at (ly_sI (ly_sI (ly_sI (ly_sI hX)))) 66 rfl) hh.2.1 rfl ?_
  refine ev_dup2 (pc := 46) d_mo_changes_46 rfl rfl ?_
  refine ev_ialdJ (v := (gI X 81 (Int32.toNatClampNeg (gI X 66 (Int32.toNatClampNeg (gI X 73 (Int32.toNatClampNeg x1))))))) (pc := 47) d_mo_changes_47 (ly_at (ly_sI (ly_sI (ly_sI (ly_sI hX)))) 81 rfl) hh.2.2.1 rfl ?_
  refine ev_aload_n (x := 55) (pc := 48) d_mo_changes_48 rfl ?_
  refine ev_getR (pc := 49) d_mo_changes_49 f_mo_48 (ly_at (ly_sI (ly_sI (ly_sI (ly_sI hX)))) 55 rfl) gg_12 rfl (ly_rf (ly_sI (ly_sI (ly_sI (ly_sI hX)))) 55 16 rfl) ?_
  refine ev_aload_n (x := 55) (pc := 52) d_mo_changes_52 rfl ?_
  refine ev_getR (pc := 53) d_mo_changes_53 f_mo_66 (ly_at (ly_sI (ly_sI (ly_sI (ly_sI hX)))) 55 rfl) gg_12 rfl (ly_rf (ly_sI (ly_sI (ly_sI (ly_sI hX)))) 55 23 rfl) ?_
  refine ev_iload_n (x := x1) (pc := 56) d_mo_changes_56 rfl ?_
  refine ev_ialdJ (v := (gI X 73 (Int32.toNatClampNeg x1))) (pc := 57) d_mo_changes_57 (ly_at (ly_sI (ly_sI (ly_sI (ly_sI hX)))) 73 rfl) hh.1 rfl ?_
  refine ev_ialdJ (v := (gI X 67 (Int32.toNatClampNeg (gI X 73 (Int32.toNatClampNeg x1))))) (pc := 58) d_mo_changes_58 (ly_at (ly_sI (ly_sI (ly_sI (ly_sI hX)))) 67 rfl) hh.2.1 rfl ?_
  refine ev_isub (pc := 59) d_mo_changes_59 ?_
  refine ev_iast (pc := 60) d_mo_changes_60 (ly_at (ly_sI (ly_sI (ly_sI (ly_sI hX)))) 81 rfl) hh.2.2.1 ?_
  exact ev_ret (pc := 61) ⟨Nat.le_of_ble_eq_true rfl, Nat.le_of_ble_eq_true rfl⟩ d_mo_changes_61 rfl hh.2.2.2
