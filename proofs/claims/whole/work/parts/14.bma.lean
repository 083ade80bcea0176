theorem b_mo_knot_0 {E : gp_E} {S : gp_S} {X : gp_H} {Q : Option Value → gp_H → Prop}  (hX : Lay S X)  (hh : ((¬ (gI X 55 0) = 12 → Q (some (.int (((gI X 55 0) + 1) - 1))) (gp_sI X 55 0 ((gI X 55 0) + 1))) ∧ ((gI X 55 0) = 12 → Q (some (.int (-4))) X))) : Ev E m_mo_knot 0 [(0, .ref 55)] [] X (0, 0) Q := by
  refine ev_aload_n (x := 55) (pc := 0) d_mo_knot_0 rfl ?_
  refine ev_getJ (v := (gI X 55 0)) (pc := 1) d_mo_knot_1 f_mo_193 (ly_at hX 55 rfl) gg_12 rfl rfl ?_
  refine ev_bipush (v := 12) (pc := 4) d_mo_knot_4 kc_b_12 ?_
  refine ev_icmp_ne (pc := 6) (tgt := 12) d_mo_knot_6 (by decide) (fun c_1 => ?_) (fun c_1 => ?_)
  · have h_2 := hh.1 c_1
    refine ev_aload_n (x := 55) (pc := 12) d_mo_knot_12 rfl ?_
    refine ev_dup (pc := 13) d_mo_knot_13 rfl ?_
    refine ev_getJ (v := (gI X 55 0)) (pc := 14) d_mo_knot_14 f_mo_193 (ly_at hX 55 rfl) gg_12 rfl rfl ?_
    refine ev_iconst (v := 1) (pc := 17) d_mo_knot_17 kc_i_1 ?_
    refine ev_iadd (pc := 18) d_mo_knot_18 ?_
    refine ev_putI (pc := 19) d_mo_knot_19 f_mo_193 (ly_at hX 55 rfl) gg_12 rfl (Or.inl rfl) (vp_nar_int _) rfl ?_
    refine ev_aload_n (x := 55) (pc := 22) d_mo_knot_22 rfl ?_
    refine ev_getJ (v := ((gI X 55 0) + 1)) (pc := 23) d_mo_knot_23 f_mo_193 (ly_at (ly_sI hX) 55 rfl) gg_12 rfl rfl ?_
    refine ev_iconst (v := 1) (pc := 26) d_mo_knot_26 kc_i_1 ?_
    refine ev_isub (pc := 27) d_mo_knot_27 ?_
    exact ev_iret (pc := 28) ⟨Nat.le_of_ble_eq_true rfl, Nat.le_of_ble_eq_true rfl⟩ d_mo_knot_28 rfl (vp_nar_int _) h_2
  · have h_3 := hh.2 c_1
    refine ev_bipush (v := (-4)) (pc := 9) d_mo_knot_9 kc_b_m4 ?_
    exact ev_iret (pc := 11) ⟨Nat.le_of_ble_eq_true rfl, Nat.le_of_ble_eq_true rfl⟩ d_mo_knot_11 rfl (vp_nar_int _) h_3
theorem b_mo_pipe_0 {E : gp_E} {S : gp_S} {X : gp_H} {Q : Option Value → gp_H → Prop} {x1 : Int32} {x2 : Int32} {x3 : Int32} (hX : Lay S X)  (hh : (((iw x1 0 ((gI X 55 0) - 1)) = false → Q (some (.int (-1))) X) ∧ ((iw x1 0 ((gI X 55 0) - 1)) = true → (((iw x2 0 ((gI X 55 0) - 1)) = true → ((x1 = x2 → Q (some (.int (-2))) X) ∧ (¬ x1 = x2 → (((iw x3 0 1) = true → ((¬ (gI X 55 1) = 20 → (vp_in (gI X 55 1) 20 ∧ ((¬ x3 = 1 → Ev E m_mo_pipe 85 [(0, .ref 55), (1, .int x1), (2, .int x2), (3, .int x3)] [.int 0, .int (gI X 55 1), .ref 58] (gp_sI (gp_sI X 56 (Int32.toNatClampNeg (gI X 55 1)) x1) 57 (Int32.toNatClampNeg (gI X 55 1)) x2) (0, 0) Q) ∧ (x3 = 1 → Ev E m_mo_pipe 85 [(0, .ref 55), (1, .int x1), (2, .int x2), (3, .int x3)] [.int 1, .int (gI X 55 1), .ref 58] (gp_sI (gp_sI X 56 (Int32.toNatClampNeg (gI X 55 1)) x1) 57 (Int32.toNatClampNeg (gI X 55 1)) x2) (0, 0) Q)))) ∧ ((gI X 55 1) = 20 → Q (some (.int (-4))) X))) ∧ ((iw x3 0 1) = false → Q (some (.int (-2))) X))))) ∧ ((iw x2 0 ((gI X 55 0) - 1)) = false → Q (some (.int (-1))) X))))) : Ev E m_mo_pipe 0 [(0, .ref 55), (1, .int x1), (2, .int x2), (3, .int x3)] [] X (0, 0) Q := by
  refine ev_aload_n (x := 55) (pc := 0) d_mo_pipe_0 rfl ?_
  refine ev_iload_n (x := x1) (pc := 1) d_mo_pipe_1 rfl ?_
  refine ev_callV (z := m_mo_isKnot) (as := [.int x1]) (rest := []) (pc := 2) d_mo_pipe_2 (ly_at hX 55 rfl) lt13_12 rfl l_mo_212 i_mo_isKnot v_mo_isKnot o_mo_isKnot rfl rfl (Nat.le_of_ble_eq_true rfl) rfl (Nat.le_of_ble_eq_true rfl) ⟨Nat.le_of_ble_eq_true rfl, Nat.le_of_ble_eq_true rfl⟩ (s_mo_isKnot hX x1 ) (fun r X1 hq => ?_)
  obtain ⟨rfl, rfl⟩ := hq
  show Ev E m_mo_pipe 5 [(0, .ref 55), (1, .int x1), (2, .int x2), (3, .int x3)] [.int (bz (iw x1 0 ((gI X 55 0) - 1)))] X (0, 0) Q
  refine ev_ifz_eq (pc := 5) (tgt := 16) d_mo_pipe_5 (by decide) (fun c_1 => ?_) (fun c_1 => ?_)
  · have h_2 := hh.1 c_1
    refine ev_iconst (v := (-1)) (pc := 16) d_mo_pipe_16 kc_i_m1 ?_
    exact ev_iret (pc := 17) ⟨Nat.le_of_ble_eq_true rfl, Nat.le_of_ble_eq_true rfl⟩ d_mo_pipe_17 rfl (vp_nar_int _) h_2
  · have h_3 := hh.2 c_1
    refine ev_aload_n (x := 55) (pc := 8) d_mo_pipe_8 rfl ?_
    refine ev_iload_n (x := x2) (pc := 9) d_mo_pipe_9 rfl ?_
    refine ev_callV (z := m_mo_isKnot) (as := [.int x2]) (rest := []) (pc := 10) d_mo_pipe_10 (ly_at hX 55 rfl) lt13_12 rfl l_mo_212 i_mo_isKnot v_mo_isKnot o_mo_isKnot rfl rfl (Nat.le_of_ble_eq_true rfl) rfl (Nat.le_of_ble_eq_true rfl) ⟨Nat.le_of_ble_eq_true rfl, Nat.le_of_ble_eq_true rfl⟩ (s_mo_isKnot hX x2 ) (fun r X1 hq => ?_)
    obtain ⟨rfl, rfl⟩ := hq
    show Ev E m_mo_pipe 13 [(0, .ref 55), (1, .int x1), (2, .int x2), (3, .int x3)] [.int (bz (iw x2 0 ((gI X 55 0) - 1)))] X (0, 0) Q
    refine ev_ifz_ne (pc := 13) (tgt := 18) d_mo_pipe_13 (by decide) (fun c_4 => ?_) (fun c_4 => ?_)
    · have h_5 := h_3.1 c_4
      refine ev_iload_n (x := x1) (pc := 18) d_mo_pipe_18 rfl ?_
      refine ev_iload_n (x := x2) (pc := 19) d_mo_pipe_19 rfl ?_
      refine ev_icmp_eq (pc := 20) (tgt := 32) d_mo_pipe_20 (by decide) (fun c_7 => ?_) (fun c_7 => ?_)
      · have h_8 := h_5.1 c_7
        refine ev_bipush (v := (-2)) (pc := 32) d_mo_pipe_32 kc_b_m2 ?_
        exact ev_iret (pc := 34) ⟨Nat.le_of_ble_eq_true rfl, Nat.le_of_ble_eq_true rfl⟩ d_mo_pipe_34 rfl (vp_nar_int _) h_8
      · have h_9 := h_5.2 c_7
        refine ev_iload_n (x := x3) (pc := 23) d_mo_pipe_23 rfl ?_
        refine ev_iconst (v := 0) (pc := 24) d_mo_pipe_24 kc_i_0 ?_
        refine ev_iconst (v := 1) (pc := 25) d_mo_pipe_25 kc_i_1 ?_
        refine ev_callS (z := m_mo_in) (as := [.int x3, .int 0, .int 1]) (rest := []) (pc := 26) d_mo_pipe_26 l_mo_196 i_mo_in o_mo_in rfl rfl (Nat.le_of_ble_eq_true rfl) rfl (Nat.le_of_ble_eq_true rfl) ⟨Nat.le_of_ble_eq_true rfl, Nat.le_of_ble_eq_true rfl⟩ (s_mo_in hX x3 0 1) (fun r X1 hq => ?_)
        obtain ⟨rfl, rfl⟩ := hq
        show Ev E m_mo_pipe 29 [(0, .ref 55), (1, .int x1), (2, .int x2), (3, .int x3)] [.int (bz (iw x3 0 1))] X (0, 0) Q
        refine ev_ifz_ne (pc := 29) (tgt := 35) d_mo_pipe_29 (by decide) (fun c_10 => ?_) (fun c_10 => ?_)
        · have h_11 := h_9.1 c_10
          refine ev_aload_n (x := 55) (pc := 35) d_mo_pipe_35 rfl ?_
          refine ev_getJ (v := (gI X 55 1)) (pc := 36) d_mo_pipe_36 f_mo_216 (ly_at hX 55 rfl) gg_12 rfl rfl ?_
          refine ev_bipush (v := 20) (pc := 39) d_mo_pipe_39 kc_b_20 ?_
          refine ev_icmp_ne (pc := 41) (tgt := 47) d_mo_pipe_41 (by decide) (fun c_13 => ?_) (fun c_13 => ?_)
          · have h_14 := h_11.1 c_13
            refine ev_aload_n (x := 55) (pc := 47) d_mo_pipe_47 rfl ?_
            refine ev_getR (pc := 48) d_mo_pipe_48 f_mo_7 (ly_at hX 55 rfl) gg_12 rfl (ly_rf hX 55 2 rfl) ?_
            refine ev_aload_n (x := 55) (pc := 51) d_mo_pipe_51 rfl ?_
            refine ev_getJ (v := (gI X 55 1)) (pc := 52) d_mo_pipe_52 f_mo_216 (ly_at hX 55 rfl) gg_12 rfl rfl ?_
            refine ev_iload_n (x := x1) (pc := 55) d_mo_pipe_55 rfl ?_
            refine ev_iast (pc := 56) d_mo_pipe_56 (ly_at hX 56 rfl) h_14.1 ?_
            refine ev_aload_n (x := 55) (pc := 57) d_mo_pipe_57 rfl ?_
            refine ev_getR (pc := 58) d_mo_pipe_58 f_mo_13 (ly_at (ly_sI hX) 55 rfl) gg_12 rfl (ly_rf (ly_sI hX) 55 3 rfl) ?_
            refine ev_aload_n (x := 55) (pc := 61) d_mo_pipe_61 rfl ?_
            refine ev_getJ (v := (gI X 55 1)) (pc := 62) d_mo_pipe_62 f_mo_216 (ly_at (ly_sI hX) 55 rfl) gg_12 rfl rfl ?_
            refine ev_iload_n (x := x2) (pc := 65) d_mo_pipe_65 rfl ?_
            refine ev_iast (pc := 66) d_mo_pipe_66 (ly_at (ly_sI hX) 57 rfl) h_14.1 ?_
            refine ev_aload_n (x := 55) (pc := 67) d_mo_pipe_67 rfl ?_
            refine ev_getR (pc := 68) d_mo_pipe_68 f_mo_16 (ly_at (ly_sI (ly_sI hX)) 55 rfl) gg_12 rfl (ly_rf (ly_sI (ly_sI hX)) 55 4 rfl) ?_
            refine ev_aload_n (x := 55) (pc := 71) d_mo_pipe_71 rfl ?_
            refine ev_getJ (v := (gI X 55 1)) (pc := 72) d_mo_pipe_72 f_mo_216 (ly_at (ly_sI (ly_sI hX)) 55 rfl) gg_12 rfl rfl ?_
            refine ev_iload_n (x := x3) (pc := 75) d_mo_pipe_75 rfl ?_
            refine ev_iconst (v := 1) (pc := 76) d_mo_pipe_76 kc_i_1 ?_
            refine ev_icmp_ne (pc := 77) (tgt := 84) d_mo_pipe_77 (by decide) (fun c_16 => ?_) (fun c_16 => ?_)
            · have h_17 := h_14.2.1 c_16
              refine ev_iconst (v := 0) (pc := 84) d_mo_pipe_84 kc_i_0 ?_
              exact h_17
            · have h_18 := h_14.2.2 c_16
              refine ev_iconst (v := 1) (pc := 80) d_mo_pipe_80 kc_i_1 ?_
              refine ev_goto (pc := 81) (tgt := 85) d_mo_pipe_81 (by decide) ?_
              exact h_18
          · have h_15 := h_11.2 c_13
            refine ev_bipush (v := (-4)) (pc := 44) d_mo_pipe_44 kc_b_m4 ?_
            exact ev_iret (pc := 46) ⟨Nat.le_of_ble_eq_true rfl, Nat.le_of_ble_eq_true rfl⟩ d_mo_pipe_46 rfl (vp_nar_int _) h_15
        · have h_12 := h_9.2 c_10
          refine ev_bipush (v := (-2)) (pc := 32) d_mo_pipe_32 kc_b_m2 ?_
          exact ev_iret (pc := 34) ⟨Nat.le_of_ble_eq_true rfl, Nat.le_of_ble_eq_true rfl⟩ d_mo_pipe_34 rfl (vp_nar_int _) h_12
    · have h_6 := h_3.2 c_4
      refine ev_iconst (v := (-1)) (pc := 16) d_mo_pipe_16 kc_i_m1 ?_
      exact ev_iret (pc := 17) ⟨Nat.le_of_ble_eq_true rfl, Nat.le_of_ble_eq_true rfl⟩ d_mo_pipe_17 rfl (vp_nar_int _) h_6
theorem b_mo_pipe_85 {E : gp_E} {S : gp_S} {X : gp_H} {Q : Option Value → gp_H → Prop} {x1 : Int32} {x2 : Int32} {x3 : Int32} {t0 : Int32} {t1 : Int32} (hX : Lay S X)  (hh : (vp_in t1 20 ∧ (narrow .boolean (.int t0) = .int t0 ∧ (vp_in (gI X 55 1) 20 ∧ Q (some (.int (((gI X 55 1) + 1) - 1))) (gp_sI (gp_sI (gp_sI X 58 (Int32.toNatClampNeg t1) t0) 59 (Int32.toNatClampNeg (gI X 55 1)) 1) 55 1 ((gI X 55 1) + 1)))))) : Ev E m_mo_pipe 85 [(0, .ref 55), (1, .int x1), (2, .int x2), (3, .int x3)] [.int t0, .int t1, .ref 58] X (0, 0) Q := by
  refine ev_zast (pc := 85) d_mo_pipe_85 (ly_at hX 58 rfl) hh.1 hh.2.1 ?_
  refine ev_aload_n (x := 55) (pc := 86) d_mo_pipe_86 rfl ?_
  refine ev_getR (pc := 87) d_mo_pipe_87 f_mo_20 (ly_at (ly_sI hX) 55 rfl) gg_12 rfl (ly_rf (ly_sI hX) 55 5 rfl) ?_
  refine ev_aload_n (x := 55) (pc := 90) d_mo_pipe_90 rfl ?_
  refine ev_getJ (v := (gI X 55 1)) (pc := 91) d_mo_pipe_91 f_mo_216 (ly_at (ly_sI hX) 55 rfl) gg_12 rfl rfl ?_
  refine ev_iconst (v := 1) (pc := 94) d_mo_pipe_94 kc_i_1 ?_
  refine ev_zast (pc := 95) d_mo_pipe_95 (ly_at (ly_sI hX) 59 rfl) hh.2.2.1 nb_1 ?_
  refine ev_aload_n (x := 55) (pc := 96) d_mo_pipe_96 rfl ?_
  refine ev_dup (pc := 97) d_mo_pipe_97 rfl ?_
  refine ev_getJ (v := (gI X 55 1)) (pc := 98) d_mo_pipe_98 f_mo_216 (ly_at (ly_sI (ly_sI hX)) 55 rfl) gg_12 rfl rfl ?_
  refine ev_iconst (v := 1) (pc := 101) d_mo_pipe_101 kc_i_1 ?_
  refine ev_iadd (pc := 102) d_mo_pipe_102 ?_
  refine ev_putI (pc := 103) d_mo_pipe_103 f_mo_216 (ly_at (ly_sI (ly_sI hX)) 55 rfl) gg_12 rfl (Or.inl rfl) (vp_nar_int _) rfl ?_
  refine ev_aload_n (x := 55) (pc := 106) d_mo_pipe_106 rfl ?_
  refine ev_getJ (v := ((gI X 55 1) + 1)) (pc := 107) d_mo_pipe_107 f_mo_216 (ly_at (ly_sI (ly_sI (ly_sI hX))) 55 rfl) gg_12 rfl rfl ?_
  refine ev_iconst (v := 1) (pc := 110) d_mo_pipe_110 kc_i_1 ?_
  refine ev_isub (pc := 111) d_mo_pipe_111 ?_
  exact ev_iret (pc := 112) ⟨Nat.le_of_ble_eq_true rfl, Nat.le_of_ble_eq_true rfl⟩ d_mo_pipe_112 rfl (vp_nar_int _) hh.2.2.2
theorem b_mo_valve_0 {E : gp_E} {S : gp_S} {X : gp_H} {Q : Option Value → gp_H → Prop} {x1 : Int32} {x2 : Int32} (hX : Lay S X)  (hh : (((iw x1 0 ((gI X 55 1) - 1)) = true → (((iw x2 0 1) = true → (vp_in x1 20 ∧ ((¬ (gI X 58 (Int32.toNatClampNeg x1)) = 0 → (((gI X 59 (Int32.toNatClampNeg x1)) = 0 → Ev E m_mo_valve 54 [(0, .ref 55), (1, .int x1), (2, .int x2)] [.int 0] X (0, 0) Q) ∧ (¬ (gI X 59 (Int32.toNatClampNeg x1)) = 0 → Ev E m_mo_valve 54 [(0, .ref 55), (1, .int x1), (2, .int x2)] [.int 1] X (0, 0) Q))) ∧ ((gI X 58 (Int32.toNatClampNeg x1)) = 0 → Q (some (.int (-3))) X)))) ∧ ((iw x2 0 1) = false → Q (some (.int (-2))) X))) ∧ ((iw x1 0 ((gI X 55 1) - 1)) = false → Q (some (.int (-1))) X))) : Ev E m_mo_valve 0 [(0, .ref 55), (1, .int x1), (2, .int x2)] [] X (0, 0) Q := by
  refine ev_iload_n (x := x1) (pc := 0) d_mo_valve_0 rfl ?_
  refine ev_iconst (v := 0) (pc := 1) d_mo_valve_1 kc_i_0 ?_
  refine ev_aload_n (x := 55) (pc := 2) d_mo_valve_2 rfl ?_
  refine ev_getJ (v := (gI X 55 1)) (pc := 3) d_mo_valve_3 f_mo_216 (ly_at hX 55 rfl) gg_12 rfl rfl ?_
  refine ev_iconst (v := 1) (pc := 6) d_mo_valve_6 kc_i_1 ?_
  refine ev_isub (pc := 7) d_mo_valve_7 ?_
  refine ev_callS (z := m_mo_in) (as := [.int x1, .int 0, .int ((gI X 55 1) - 1)]) (rest := []) (pc := 8) d_mo_valve_8 l_mo_196 i_mo_in o_mo_in rfl rfl (Nat.le_of_ble_eq_true rfl) rfl (Nat.le_of_ble_eq_true rfl) ⟨Nat.le_of_ble_eq_true rfl, Nat.le_of_ble_eq_true rfl⟩ (s_mo_in hX x1 0 ((gI X 55 1) - 1)) (fun r X1 hq => ?_)
  obtain ⟨rfl, rfl⟩ := hq
  show Ev E m_mo_valve 11 [(0, .ref 55), (1, .int x1), (2, .int x2)] [.int (bz (iw x1 0 ((gI X 55 1) - 1)))] X (0, 0) Q
  refine ev_ifz_ne (pc := 11) (tgt := 16) d_mo_valve_11 (by decide) (fun c_1 => ?_) (fun c_1 => ?_)
  · have h_2 := hh.1 c_1
    refine ev_iload_n (x := x2) (pc := 16) d_mo_valve_16 rfl ?_
    refine ev_iconst (v := 0) (pc := 17) d_mo_valve_17 kc_i_0 ?_
    refine ev_iconst (v := 1) (pc := 18) d_mo_valve_18 kc_i_1 ?_
    refine ev_callS (z := m_mo_in) (as := [.int x2, .int 0, .int 1]) (rest := []) (pc := 19) d_mo_valve_19 l_mo_196 i_mo_in o_mo_in rfl rfl (Nat.le_of_ble_eq_true rfl) rfl (Nat.le_of_ble_eq_true rfl) ⟨Nat.le_of_ble_eq_true rfl, Nat.le_of_ble_eq_true rfl⟩ (s_mo_in hX x2 0 1) (fun r X1 hq => ?_)
    obtain ⟨rfl, rfl⟩ := hq
    show Ev E m_mo_valve 22 [(0, .ref 55), (1, .int x1), (2, .int x2)] [.int (bz (iw x2 0 1))] X (0, 0) Q
    refine ev_ifz_ne (pc := 22) (tgt := 28) d_mo_valve_22 (by decide) (fun c_4 => ?_) (fun c_4 => ?_)
    · have h_5 := h_2.1 c_4
      refine ev_aload_n (x := 55) (pc := 28) d_mo_valve_28 rfl ?_
      refine ev_getR (pc := 29) d_mo_valve_29 f_mo_16 (ly_at hX 55 rfl) gg_12 rfl (ly_rf hX 55 4 rfl) ?_
      refine ev_iload_n (x := x1) (pc := 32) d_mo_valve_32 rfl ?_
      refine ev_zaldJ (v := (gI X 58 (Int32.toNatClampNeg x1))) (pc := 33) d_mo_valve_33 (ly_at hX 58 rfl) h_5.1 rfl ?_
      refine ev_if_ne (pc := 34) (tgt := 40) d_mo_valve_34 (by decide) (fun c_7 => ?_) (fun c_7 => ?_)
      · have h_8 := h_5.2.1 c_7
        refine ev_aload_n (x := 55) (pc := 40) d_mo_valve_40 rfl ?_
        refine ev_getR (pc := 41) d_mo_valve_41 f_mo_20 (ly_at hX 55 rfl) gg_12 rfl (ly_rf hX 55 5 rfl) ?_
        refine ev_iload_n (x := x1) (pc := 44) d_mo_valve_44 rfl ?_
        refine ev_zaldJ (v := (gI X 59 (Int32.toNatClampNeg x1))) (pc := 45) d_mo_valve_45 (ly_at hX 59 rfl) h_5.1 rfl ?_
        refine ev_if_eq (pc := 46) (tgt := 53) d_mo_valve_46 (by decide) (fun c_10 => ?_) (fun c_10 => ?_)
        · have h_11 := h_8.1 c_10
          refine ev_iconst (v := 0) (pc := 53) d_mo_valve_53 kc_i_0 ?_
          exact h_11
        · have h_12 := h_8.2 c_10
          refine ev_iconst (v := 1) (pc := 49) d_mo_valve_49 kc_i_1 ?_
          refine ev_goto (pc := 50) (tgt := 54) d_mo_valve_50 (by decide) ?_
          exact h_12
      · have h_9 := h_5.2.2 c_7
        refine ev_bipush (v := (-3)) (pc := 37) d_mo_valve_37 kc_b_m3 ?_
        exact ev_iret (pc := 39) ⟨Nat.le_of_ble_eq_true rfl, Nat.le_of_ble_eq_true rfl⟩ d_mo_valve_39 rfl (vp_nar_int _) h_9
    · have h_6 := h_2.2 c_4
      refine ev_bipush (v := (-2)) (pc := 25) d_mo_valve_25 kc_b_m2 ?_
      exact ev_iret (pc := 27) ⟨Nat.le_of_ble_eq_true rfl, Nat.le_of_ble_eq_true rfl⟩ d_mo_valve_27 rfl (vp_nar_int _) h_6
  · have h_3 := hh.2 c_1
    refine ev_iconst (v := (-1)) (pc := 14) d_mo_valve_14 kc_i_m1 ?_
    exact ev_iret (pc := 15) ⟨Nat.le_of_ble_eq_true rfl, Nat.le_of_ble_eq_true rfl⟩ d_mo_valve_15 rfl (vp_nar_int _) h_3
theorem b_mo_valve_54 {E : gp_E} {S : gp_S} {X : gp_H} {Q : Option Value → gp_H → Prop} {x1 : Int32} {x2 : Int32} {t0 : Int32} (hX : Lay S X)  (hh : ((¬ x2 = 1 → (vp_in x1 20 ∧ Q (some (.int t0)) (gp_sI X 59 (Int32.toNatClampNeg x1) 0))) ∧ (x2 = 1 → (vp_in x1 20 ∧ Q (some (.int t0)) (gp_sI X 59 (Int32.toNatClampNeg x1) 1))))) : Ev E m_mo_valve 54 [(0, .ref 55), (1, .int x1), (2, .int x2)] [.int t0] X (0, 0) Q := by
  refine ev_istore_n (L2 := [(0, .ref 55), (1, .int x1), (2, .int x2), (3, .int t0)]) (pc := 54) d_mo_valve_54 rfl (Nat.le_of_ble_eq_true rfl) rfl ?_
  refine ev_aload_n (x := 55) (pc := 55) d_mo_valve_55 rfl ?_
  refine ev_getR (pc := 56) d_mo_valve_56 f_mo_20 (ly_at hX 55 rfl) gg_12 rfl (ly_rf hX 55 5 rfl) ?_
  refine ev_iload_n (x := x1) (pc := 59) d_mo_valve_59 rfl ?_
  refine ev_iload_n (x := x2) (pc := 60) d_mo_valve_60 rfl ?_
  refine ev_iconst (v := 1) (pc := 61) d_mo_valve_61 kc_i_1 ?_
  refine ev_icmp_ne (pc := 62) (tgt := 69) d_mo_valve_62 (by decide) (fun c_1 => ?_) (fun c_1 => ?_)
  · have h_2 := hh.1 c_1
    refine ev_iconst (v := 0) (pc := 69) d_mo_valve_69 kc_i_0 ?_
    refine ev_zast (pc := 70) d_mo_valve_70 (ly_at hX 59 rfl) h_2.1 nb_0 ?_
    refine ev_iload_n (x := t0) (pc := 71) d_mo_valve_71 rfl ?_
    exact ev_iret (pc := 72) ⟨Nat.le_of_ble_eq_true rfl, Nat.le_of_ble_eq_true rfl⟩ d_mo_valve_72 rfl (vp_nar_int _) h_2.2
  · have h_3 := hh.2 c_1
    refine ev_iconst (v := 1) (pc := 65) d_mo_valve_65 kc_i_1 ?_
    refine ev_goto (pc := 66) (tgt := 70) d_mo_valve_66 (by decide) ?_
    refine ev_zast (pc := 70) d_mo_valve_70 (ly_at hX 59 rfl) h_3.1 nb_1 ?_
    refine ev_iload_n (x := t0) (pc := 71) d_mo_valve_71 rfl ?_
    exact ev_iret (pc := 72) ⟨Nat.le_of_ble_eq_true rfl, Nat.le_of_ble_eq_true rfl⟩ d_mo_valve_72 rfl (vp_nar_int _) h_3.2
theorem b_mo_lost_0 {E : gp_E} {S : gp_S} {X : gp_H} {Q : Option Value → gp_H → Prop} {x1 : Int32} (hX : Lay S X)  (hh : (((iw x1 0 ((gI X 55 1) - 1)) = true → (vp_in x1 20 ∧ ((¬ (gI X 58 (Int32.toNatClampNeg x1)) = 0 → (((gI X 59 (Int32.toNatClampNeg x1)) = 0 → Ev E m_mo_lost 42 [(0, .ref 55), (1, .int x1)] [.int 0] X (0, 0) Q) ∧ (¬ (gI X 59 (Int32.toNatClampNeg x1)) = 0 → Ev E m_mo_lost 42 [(0, .ref 55), (1, .int x1)] [.int 1] X (0, 0) Q))) ∧ ((gI X 58 (Int32.toNatClampNeg x1)) = 0 → Q (some (.int (-3))) X)))) ∧ ((iw x1 0 ((gI X 55 1) - 1)) = false → Q (some (.int (-1))) X))) : Ev E m_mo_lost 0 [(0, .ref 55), (1, .int x1)] [] X (0, 0) Q := by
  refine ev_iload_n (x := x1) (pc := 0) d_mo_lost_0 rfl ?_
  refine ev_iconst (v := 0) (pc := 1) d_mo_lost_1 kc_i_0 ?_
  refine ev_aload_n (x := 55) (pc := 2) d_mo_lost_2 rfl ?_
  refine ev_getJ (v := (gI X 55 1)) (pc := 3) d_mo_lost_3 f_mo_216 (ly_at hX 55 rfl) gg_12 rfl rfl ?_
  refine ev_iconst (v := 1) (pc := 6) d_mo_lost_6 kc_i_1 ?_
  refine ev_isub (pc := 7) d_mo_lost_7 ?_
  refine ev_callS (z := m_mo_in) (as := [.int x1, .int 0, .int ((gI X 55 1) - 1)]) (rest := []) (pc := 8) d_mo_lost_8 l_mo_196 i_mo_in o_mo_in rfl rfl (Nat.le_of_ble_eq_true rfl) rfl (Nat.le_of_ble_eq_true rfl) ⟨Nat.le_of_ble_eq_true rfl, Nat.le_of_ble_eq_true rfl⟩ (s_mo_in hX x1 0 ((gI X 55 1) - 1)) (fun r X1 hq => ?_)
  obtain ⟨rfl, rfl⟩ := hq
  show Ev E m_mo_lost 11 [(0, .ref 55), (1, .int x1)] [.int (bz (iw x1 0 ((gI X 55 1) - 1)))] X (0, 0) Q
  refine ev_ifz_ne (pc := 11) (tgt := 16) d_mo_lost_11 (by decide) (fun c_1 => ?_) (fun c_1 => ?_)
  · have h_2 := hh.1 c_1
    refine ev_aload_n (x := 55) (pc := 16) d_mo_lost_16 rfl ?_
    refine ev_getR (pc := 17) d_mo_lost_17 f_mo_16 (ly_at hX 55 rfl) gg_12 rfl (ly_rf hX 55 4 rfl) ?_
    refine ev_iload_n (x := x1) (pc := 20) d_mo_lost_20 rfl ?_
    refine ev_zaldJ (v := (gI X 58 (Int32.toNatClampNeg x1))) (pc := 21) d_mo_lost_21 (ly_at hX 58 rfl) h_2.1 rfl ?_
    refine ev_if_ne (pc := 22) (tgt := 28) d_mo_lost_22 (by decide) (fun c_4 => ?_) (fun c_4 => ?_)
    · have h_5 := h_2.2.1 c_4
      refine ev_aload_n (x := 55) (pc := 28) d_mo_lost_28 rfl ?_
      refine ev_getR (pc := 29) d_mo_lost_29 f_mo_20 (ly_at hX 55 rfl) gg_12 rfl (ly_rf hX 55 5 rfl) ?_
      refine ev_iload_n (x := x1) (pc := 32) d_mo_lost_32 rfl ?_
      refine ev_zaldJ (v := (gI X 59 (Int32.toNatClampNeg x1))) (pc := 33) d_mo_lost_33 (ly_at hX 59 rfl) h_2.1 rfl ?_
      refine ev_if_eq (pc := 34) (tgt := 41) d_mo_lost_34 (by decide) (fun c_7 => ?_) (fun c_7 => ?_)
      · have h_8 := h_5.1 c_7
        refine ev_iconst (v := 0) (pc := 41) d_mo_lost_41 kc_i_0 ?_
        exact h_8
      · have h_9 := h_5.2 c_7
        refine ev_iconst (v := 1) (pc := 37) d_mo_lost_37 kc_i_1 ?_
        refine ev_goto (pc := 38) (tgt := 42) d_mo_lost_38 (by decide) ?_
        exact h_9
    · have h_6 := h_2.2.2 c_4
      refine ev_bipush (v := (-3)) (pc := 25) d_mo_lost_25 kc_b_m3 ?_
      exact ev_iret (pc := 27) ⟨Nat.le_of_ble_eq_true rfl, Nat.le_of_ble_eq_true rfl⟩ d_mo_lost_27 rfl (vp_nar_int _) h_6
  · have h_3 := hh.2 c_1
    refine ev_iconst (v := (-1)) (pc := 14) d_mo_lost_14 kc_i_m1 ?_
    exact ev_iret (pc := 15) ⟨Nat.le_of_ble_eq_true rfl, Nat.le_of_ble_eq_true rfl⟩ d_mo_lost_15 rfl (vp_nar_int _) h_3
theorem b_mo_lost_42 {E : gp_E} {S : gp_S} {X : gp_H} {Q : Option Value → gp_H → Prop} {x1 : Int32} {t0 : Int32} (hX : Lay S X)  (hh : (vp_in x1 20 ∧ Q (some (.int t0)) (gp_sI (gp_sI X 58 (Int32.toNatClampNeg x1) 0) 59 (Int32.toNatClampNeg x1) 1))) : Ev E m_mo_lost 42 [(0, .ref 55), (1, .int x1)] [.int t0] X (0, 0) Q := by
  refine ev_istore_n (L2 := [(0, .ref 55), (1, .int x1), (2, .int t0)]) (pc := 42) d_mo_lost_42 rfl (Nat.le_of_ble_eq_true rfl) rfl ?_
  refine ev_aload_n (x := 55) (pc := 43) d_mo_lost_43 rfl ?_
  refine ev_getR (pc := 44) d_mo_lost_44 f_mo_16 (ly_at hX 55 rfl) gg_12 rfl (ly_rf hX 55 4 rfl) ?_
  refine ev_iload_n (x := x1) (pc := 47) d_mo_lost_47 rfl ?_
  refine ev_iconst (v := 0) (pc := 48) d_mo_lost_48 kc_i_0 ?_
  refine ev_zast (pc := 49) d_mo_lost_49 (ly_at hX 58 rfl) hh.1 nb_0 ?_
  refine ev_aload_n (x := 55) (pc := 50) d_mo_lost_50 rfl ?_
  refine ev_getR (pc := 51) d_mo_lost_51 f_mo_20 (ly_at (ly_sI hX) 55 rfl) gg_12 rfl (ly_rf (ly_sI hX) 55 5 rfl) ?_
  refine ev_iload_n (x := x1) (pc := 54) d_mo_lost_54 rfl ?_
  refine ev_iconst (v := 1) (pc := 55) d_mo_lost_55 kc_i_1 ?_
  refine ev_zast (pc := 56) d_mo_lost_56 (ly_at (ly_sI hX) 59 rfl) hh.1 nb_1 ?_
  refine ev_iload_n (x := t0) (pc := 57) d_mo_lost_57 rfl ?_
  exact ev_iret (pc := 58) ⟨Nat.le_of_ble_eq_true rfl, Nat.le_of_ble_eq_true rfl⟩ d_mo_lost_58 rfl (vp_nar_int _) hh.2
theorem b_mo_pipeOf_0 {E : gp_E} {S : gp_S} {X : gp_H} {Q : Option Value → gp_H → Prop} {x1 : Int32} {x2 : Int32} (hX : Lay S X)  (hh : (((iw x1 0 ((gI X 55 1) - 1)) = true → (((x2.toInt < 0 ∨ 3 < x2.toInt) → Q (some (.int (-5))) X) ∧ (x2 = 0 → (vp_in x1 20 ∧ Q (some (.int (gI X 56 (Int32.toNatClampNeg x1)))) X)) ∧ (x2 = 1 → (vp_in x1 20 ∧ Q (some (.int (gI X 57 (Int32.toNatClampNeg x1)))) X)) ∧ (x2 = 2 → (vp_in x1 20 ∧ (((gI X 58 (Int32.toNatClampNeg x1)) = 0 → Q (some (.int 0)) X) ∧ (¬ (gI X 58 (Int32.toNatClampNeg x1)) = 0 → Q (some (.int 1)) X)))) ∧ (x2 = 3 → (vp_in x1 20 ∧ (((gI X 59 (Int32.toNatClampNeg x1)) = 0 → Q (some (.int 0)) X) ∧ (¬ (gI X 59 (Int32.toNatClampNeg x1)) = 0 → Q (some (.int 1)) X)))))) ∧ ((iw x1 0 ((gI X 55 1) - 1)) = false → Q (some (.int (-5))) X))) : Ev E m_mo_pipeOf 0 [(0, .ref 55), (1, .int x1), (2, .int x2)] [] X (0, 0) Q := by
  refine ev_iload_n (x := x1) (pc := 0) d_mo_pipeOf_0 rfl ?_
  refine ev_iconst (v := 0) (pc := 1) d_mo_pipeOf_1 kc_i_0 ?_
  refine ev_aload_n (x := 55) (pc := 2) d_mo_pipeOf_2 rfl ?_
  refine ev_getJ (v := (gI X 55 1)) (pc := 3) d_mo_pipeOf_3 f_mo_216 (ly_at hX 55 rfl) gg_12 rfl rfl ?_
  refine ev_iconst (v := 1) (pc := 6) d_mo_pipeOf_6 kc_i_1 ?_
  refine ev_isub (pc := 7) d_mo_pipeOf_7 ?_
  refine ev_callS (z := m_mo_in) (as := [.int x1, .int 0, .int ((gI X 55 1) - 1)]) (rest := []) (pc := 8) d_mo_pipeOf_8 l_mo_196 i_mo_in o_mo_in rfl rfl (Nat.le_of_ble_eq_true rfl) rfl (Nat.le_of_ble_eq_true rfl) ⟨Nat.le_of_ble_eq_true rfl, Nat.le_of_ble_eq_true rfl⟩ (s_mo_in hX x1 0 ((gI X 55 1) - 1)) (fun r X1 hq => ?_)
  obtain ⟨rfl, rfl⟩ := hq
  show Ev E m_mo_pipeOf 11 [(0, .ref 55), (1, .int x1), (2, .int x2)] [.int (bz (iw x1 0 ((gI X 55 1) - 1)))] X (0, 0) Q
  refine ev_ifz_ne (pc := 11) (tgt := 17) d_mo_pipeOf_11 (by decide) (fun c_1 => ?_) (fun c_1 => ?_)
  · have h_2 := hh.1 c_1
    refine ev_iload_n (x := x2) (pc := 17) d_mo_pipeOf_17 rfl ?_
    rcases gp_tab (lo := 0) (n := 4) x2 with c_15 | ⟨k, hk, c_15⟩
    · have h_4 := h_2.1 (by omega)
      refine ev_tableOut (pc := 18) (tgt := 92) d_mo_pipeOf_18 (by omega) (by decide) ?_
      refine ev_bipush (v := (-5)) (pc := 92) d_mo_pipeOf_92 kc_b_m5 ?_
      exact ev_iret (pc := 94) ⟨Nat.le_of_ble_eq_true rfl, Nat.le_of_ble_eq_true rfl⟩ d_mo_pipeOf_94 rfl (vp_nar_int _) h_4
    · match k, hk, c_15 with
      | 0, _, c_15 =>
        have c_15e : x2 = 0 := gp_eqi (c_15.trans (by decide : (0 : Int) + ((0 : Nat) : Int) = 0)) (by decide)
        have h_5 := h_2.2.1 c_15e
        refine ev_tableIn (pc := 18) (off := 30) (tgt := 48) d_mo_pipeOf_18 (by rw [c_15e]; decide) (by rw [c_15e]; decide) (by rw [c_15e]; decide) (by decide) ?_
        refine ev_aload_n (x := 55) (pc := 48) d_mo_pipeOf_48 rfl ?_
        refine ev_getR (pc := 49) d_mo_pipeOf_49 f_mo_7 (ly_at hX 55 rfl) gg_12 rfl (ly_rf hX 55 2 rfl) ?_
        refine ev_iload_n (x := x1) (pc := 52) d_mo_pipeOf_52 rfl ?_
        refine ev_ialdJ (v := (gI X 56 (Int32.toNatClampNeg x1))) (pc := 53) d_mo_pipeOf_53 (ly_at hX 56 rfl) h_5.1 rfl ?_
        exact ev_iret (pc := 54) ⟨Nat.le_of_ble_eq_true rfl, Nat.le_of_ble_eq_true rfl⟩ d_mo_pipeOf_54 rfl (vp_nar_int _) h_5.2
      | 1, _, c_15 =>
        have c_15e : x2 = 1 := gp_eqi (c_15.trans (by decide : (0 : Int) + ((1 : Nat) : Int) = 1)) (by decide)
        have h_6 := h_2.2.2.1 c_15e
        refine ev_tableIn (pc := 18) (off := 37) (tgt := 55) d_mo_pipeOf_18 (by rw [c_15e]; decide) (by rw [c_15e]; decide) (by rw [c_15e]; decide) (by decide) ?_
        refine ev_aload_n (x := 55) (pc := 55) d_mo_pipeOf_55 rfl ?_
        refine ev_getR (pc := 56) d_mo_pipeOf_56 f_mo_13 (ly_at hX 55 rfl) gg_12 rfl (ly_rf hX 55 3 rfl) ?_
        refine ev_iload_n (x := x1) (pc := 59) d_mo_pipeOf_59 rfl ?_
        refine ev_ialdJ (v := (gI X 57 (Int32.toNatClampNeg x1))) (pc := 60) d_mo_pipeOf_60 (ly_at hX 57 rfl) h_6.1 rfl ?_
        exact ev_iret (pc := 61) ⟨Nat.le_of_ble_eq_true rfl, Nat.le_of_ble_eq_true rfl⟩ d_mo_pipeOf_61 rfl (vp_nar_int _) h_6.2
      | 2, _, c_15 =>
        have c_15e : x2 = 2 := gp_eqi (c_15.trans (by decide : (0 : Int) + ((2 : Nat) : Int) = 2)) (by decide)
        have h_7 := h_2.2.2.2.1 c_15e
        refine ev_tableIn (pc := 18) (off := 44) (tgt := 62) d_mo_pipeOf_18 (by rw [c_15e]; decide) (by rw [c_15e]; decide) (by rw [c_15e]; decide) (by decide) ?_
        refine ev_aload_n (x := 55) (pc := 62) d_mo_pipeOf_62 rfl ?_
        refine ev_getR (pc := 63) d_mo_pipeOf_63 f_mo_16 (ly_at hX 55 rfl) gg_12 rfl (ly_rf hX 55 4 rfl) ?_
        refine ev_iload_n (x := x1) (pc := 66) d_mo_pipeOf_66 rfl ?_
        refine ev_zaldJ (v := (gI X 58 (Int32.toNatClampNeg x1))) (pc := 67) d_mo_pipeOf_67 (ly_at hX 58 rfl) h_7.1 rfl ?_
        refine ev_if_eq (pc := 68) (tgt := 75) d_mo_pipeOf_68 (by decide) (fun c_8 => ?_) (fun c_8 => ?_)
        · have h_9 := h_7.2.1 c_8
          refine ev_iconst (v := 0) (pc := 75) d_mo_pipeOf_75 kc_i_0 ?_
          exact ev_iret (pc := 76) ⟨Nat.le_of_ble_eq_true rfl, Nat.le_of_ble_eq_true rfl⟩ d_mo_pipeOf_76 rfl (vp_nar_int _) h_9
        · have h_10 := h_7.2.2 c_8
          refine ev_iconst (v := 1) (pc := 71) d_mo_pipeOf_71 kc_i_1 ?_
          refine ev_goto (pc := 72) (tgt := 76) d_mo_pipeOf_72 (by decide) ?_
          exact ev_iret (pc := 76) ⟨Nat.le_of_ble_eq_true rfl, Nat.le_of_ble_eq_true rfl⟩ d_mo_pipeOf_76 rfl (vp_nar_int _) h_10
      | 3, _, c_15 =>
        have c_15e : x2 = 3 := gp_eqi (c_15.trans (by decide : (0 : Int) + ((3 : Nat) : Int) = 3)) (by decide)
        have h_11 := h_2.2.2.2.2 c_15e
        refine ev_tableIn (pc := 18) (off := 59) (tgt := 77) d_mo_pipeOf_18 (by rw [c_15e]; decide) (by rw [c_15e]; decide) (by rw [c_15e]; decide) (by decide) ?_
        refine ev_aload_n (x := 55) (pc := 77) d_mo_pipeOf_77 rfl ?_
        refine ev_getR (pc := 78) d_mo_pipeOf_78 f_mo_20 (ly_at hX 55 rfl) gg_12 rfl (ly_rf hX 55 5 rfl) ?_
        refine ev_iload_n (x := x1) (pc := 81) d_mo_pipeOf_81 rfl ?_
        refine ev_zaldJ (v := (gI X 59 (Int32.toNatClampNeg x1))) (pc := 82) d_mo_pipeOf_82 (ly_at hX 59 rfl) h_11.1 rfl ?_
        refine ev_if_eq (pc := 83) (tgt := 90) d_mo_pipeOf_83 (by decide) (fun c_12 => ?_) (fun c_12 => ?_)
        · have h_13 := h_11.2.1 c_12
          refine ev_iconst (v := 0) (pc := 90) d_mo_pipeOf_90 kc_i_0 ?_
          exact ev_iret (pc := 91) ⟨Nat.le_of_ble_eq_true rfl, Nat.le_of_ble_eq_true rfl⟩ d_mo_pipeOf_91 rfl (vp_nar_int _) h_13
        · have h_14 := h_11.2.2 c_12
          refine ev_iconst (v := 1) (pc := 86) d_mo_pipeOf_86 kc_i_1 ?_
          refine ev_goto (pc := 87) (tgt := 91) d_mo_pipeOf_87 (by decide) ?_
          exact ev_iret (pc := 91) ⟨Nat.le_of_ble_eq_true rfl, Nat.le_of_ble_eq_true rfl⟩ d_mo_pipeOf_91 rfl (vp_nar_int _) h_14
      | k + 4, hk, _ => exact absurd hk (by omega)
  · have h_3 := hh.2 c_1
    refine ev_bipush (v := (-5)) (pc := 14) d_mo_pipeOf_14 kc_b_m5 ?_
    exact ev_iret (pc := 16) ⟨Nat.le_of_ble_eq_true rfl, Nat.le_of_ble_eq_true rfl⟩ d_mo_pipeOf_16 rfl (vp_nar_int _) h_3
theorem b_mo_works_0 {E : gp_E} {S : gp_S} {X : gp_H} {Q : Option Value → gp_H → Prop} {x1 : Int32} {x2 : Int32} {x3 : Int32} (hX : Lay S X)  (hh : (((iw x1 0 ((gI X 55 0) - 1)) = true → (((iw x2 1 500) = false → Q (some (.int (-2))) X) ∧ ((iw x2 1 500) = true → (((iw x3 0 9999) = true → ((¬ (gI X 55 6) = 5 → (vp_in (gI X 55 6) 5 ∧ Q (some (.int (((gI X 55 6) + 1) - 1))) (gp_sI (gp_sI (gp_sI (gp_sI (gp_sI X 60 (Int32.toNatClampNeg (gI X 55 6)) x1) 61 (Int32.toNatClampNeg (gI X 55 6)) x2) 62 (Int32.toNatClampNeg (gI X 55 6)) x3) 63 (Int32.toNatClampNeg (gI X 55 6)) 1) 55 6 ((gI X 55 6) + 1)))) ∧ ((gI X 55 6) = 5 → Q (some (.int (-4))) X))) ∧ ((iw x3 0 9999) = false → Q (some (.int (-2))) X))))) ∧ ((iw x1 0 ((gI X 55 0) - 1)) = false → Q (some (.int (-1))) X))) : Ev E m_mo_works 0 [(0, .ref 55), (1, .int x1), (2, .int x2), (3, .int x3)] [] X (0, 0) Q := by
  refine ev_aload_n (x := 55) (pc := 0) d_mo_works_0 rfl ?_
  refine ev_iload_n (x := x1) (pc := 1) d_mo_works_1 rfl ?_
  refine ev_callV (z := m_mo_isKnot) (as := [.int x1]) (rest := []) (pc := 2) d_mo_works_2 (ly_at hX 55 rfl) lt13_12 rfl l_mo_212 i_mo_isKnot v_mo_isKnot o_mo_isKnot rfl rfl (Nat.le_of_ble_eq_true rfl) rfl (Nat.le_of_ble_eq_true rfl) ⟨Nat.le_of_ble_eq_true rfl, Nat.le_of_ble_eq_true rfl⟩ (s_mo_isKnot hX x1 ) (fun r X1 hq => ?_)
  obtain ⟨rfl, rfl⟩ := hq
  show Ev E m_mo_works 5 [(0, .ref 55), (1, .int x1), (2, .int x2), (3, .int x3)] [.int (bz (iw x1 0 ((gI X 55 0) - 1)))] X (0, 0) Q
  refine ev_ifz_ne (pc := 5) (tgt := 10) d_mo_works_5 (by decide) (fun c_1 => ?_) (fun c_1 => ?_)
  · have h_2 := hh.1 c_1
    refine ev_iload_n (x := x2) (pc := 10) d_mo_works_10 rfl ?_
    refine ev_iconst (v := 1) (pc := 11) d_mo_works_11 kc_i_1 ?_
    refine ev_sipush (v := 500) (pc := 12) d_mo_works_12 kc_s_500 ?_
    refine ev_callS (z := m_mo_in) (as := [.int x2, .int 1, .int 500]) (rest := []) (pc := 15) d_mo_works_15 l_mo_196 i_mo_in o_mo_in rfl rfl (Nat.le_of_ble_eq_true rfl) rfl (Nat.le_of_ble_eq_true rfl) ⟨Nat.le_of_ble_eq_true rfl, Nat.le_of_ble_eq_true rfl⟩ (s_mo_in hX x2 1 500) (fun r X1 hq => ?_)
    obtain ⟨rfl, rfl⟩ := hq
    show Ev E m_mo_works 18 [(0, .ref 55), (1, .int x1), (2, .int x2), (3, .int x3)] [.int (bz (iw x2 1 500))] X (0, 0) Q
    refine ev_ifz_eq (pc := 18) (tgt := 32) d_mo_works_18 (by decide) (fun c_4 => ?_) (fun c_4 => ?_)
    · have h_5 := h_2.1 c_4
      refine ev_bipush (v := (-2)) (pc := 32) d_mo_works_32 kc_b_m2 ?_
      exact ev_iret (pc := 34) ⟨Nat.le_of_ble_eq_true rfl, Nat.le_of_ble_eq_true rfl⟩ d_mo_works_34 rfl (vp_nar_int _) h_5
    · have h_6 := h_2.2 c_4
      refine ev_iload_n (x := x3) (pc := 21) d_mo_works_21 rfl ?_
      refine ev_iconst (v := 0) (pc := 22) d_mo_works_22 kc_i_0 ?_
      refine ev_sipush (v := 9999) (pc := 23) d_mo_works_23 kc_s_9999 ?_
      refine ev_callS (z := m_mo_in) (as := [.int x3, .int 0, .int 9999]) (rest := []) (pc := 26) d_mo_works_26 l_mo_196 i_mo_in o_mo_in rfl rfl (Nat.le_of_ble_eq_true rfl) rfl (Nat.le_of_ble_eq_true rfl) ⟨Nat.le_of_ble_eq_true rfl, Nat.le_of_ble_eq_true rfl⟩ (s_mo_in hX x3 0 9999) (fun r X1 hq => ?_)
      obtain ⟨rfl, rfl⟩ := hq
      show Ev E m_mo_works 29 [(0, .ref 55), (1, .int x1), (2, .int x2), (3, .int x3)] [.int (bz (iw x3 0 9999))] X (0, 0) Q
      refine ev_ifz_ne (pc := 29) (tgt := 35) d_mo_works_29 (by decide) (fun c_7 => ?_) (fun c_7 => ?_)
      · have h_8 := h_6.1 c_7
        refine ev_aload_n (x := 55) (pc := 35) d_mo_works_35 rfl ?_
        refine ev_getJ (v := (gI X 55 6)) (pc := 36) d_mo_works_36 f_mo_219 (ly_at hX 55 rfl) gg_12 rfl rfl ?_
        refine ev_iconst (v := 5) (pc := 39) d_mo_works_39 kc_i_5 ?_
        refine ev_icmp_ne (pc := 40) (tgt := 46) d_mo_works_40 (by decide) (fun c_10 => ?_) (fun c_10 => ?_)
        · have h_11 := h_8.1 c_10
          refine ev_aload_n (x := 55) (pc := 46) d_mo_works_46 rfl ?_
          refine ev_getR (pc := 47) d_mo_works_47 f_mo_23 (ly_at hX 55 rfl) gg_12 rfl (ly_rf hX 55 7 rfl) ?_
          refine ev_aload_n (x := 55) (pc := 50) d_mo_works_50 rfl ?_
          refine ev_getJ (v := (gI X 55 6)) (pc := 51) d_mo_works_51 f_mo_219 (ly_at hX 55 rfl) gg_12 rfl rfl ?_
          refine ev_iload_n (x := x1) (pc := 54) d_mo_works_54 rfl ?_
          refine ev_iast (pc := 55) d_mo_works_55 (ly_at hX 60 rfl) h_11.1 ?_
          refine ev_aload_n (x := 55) (pc := 56) d_mo_works_56 rfl ?_
          refine ev_getR (pc := 57) d_mo_works_57 f_mo_26 (ly_at (ly_sI hX) 55 rfl) gg_12 rfl (ly_rf (ly_sI hX) 55 8 rfl) ?_
          refine ev_aload_n (x := 55) (pc := 60) d_mo_works_60 rfl ?_
          refine ev_getJ (v := (gI X 55 6)) (pc := 61) d_mo_works_61 f_mo_219 (ly_at (ly_sI hX) 55 rfl) gg_12 rfl rfl ?_
          refine ev_iload_n (x := x2) (pc := 64) d_mo_works_64 rfl ?_
          refine ev_iast (pc := 65) d_mo_works_65 (ly_at (ly_sI hX) 61 rfl) h_11.1 ?_
          refine ev_aload_n (x := 55) (pc := 66) d_mo_works_66 rfl ?_
          refine ev_getR (pc := 67) d_mo_works_67 f_mo_29 (ly_at (ly_sI (ly_sI hX)) 55 rfl) gg_12 rfl (ly_rf (ly_sI (ly_sI hX)) 55 9 rfl) ?_
          refine ev_aload_n (x := 55) (pc := 70) d_mo_works_70 rfl ?_
          refine ev_getJ (v := (gI X 55 6)) (pc := 71) d_mo_works_71 f_mo_219 (ly_at (ly_sI (ly_sI hX)) 55 rfl) gg_12 rfl rfl ?_
          refine ev_iload_n (x := x3) (pc := 74) d_mo_works_74 rfl ?_
          refine ev_iast (pc := 75) d_mo_works_75 (ly_at (ly_sI (ly_sI hX)) 62 rfl) h_11.1 ?_
          refine ev_aload_n (x := 55) (pc := 76) d_mo_works_76 rfl ?_
          refine ev_getR (pc := 77) d_mo_works_77 f_mo_32 (ly_at (ly_sI (ly_sI (ly_sI hX))) 55 rfl) gg_12 rfl (ly_rf (ly_sI (ly_sI (ly_sI hX))) 55 10 rfl) ?_
          refine ev_aload_n (x := 55) (pc := 80) d_mo_works_80 rfl ?_
          refine ev_getJ (v := (gI X 55 6)) (pc := 81) d_mo_works_81 f_mo_219 (ly_at (ly_sI (ly_sI (ly_sI hX))) 55 rfl) gg_12 rfl rfl ?_
          refine ev_iconst (v := 1) (pc := 84) d_mo_works_84 kc_i_1 ?_
          refine ev_zast (pc := 85) d_mo_works_85 (ly_at (ly_sI (ly_sI (ly_sI hX))) 63 rfl) h_11.1 nb_1 ?_
          refine ev_aload_n (x := 55) (pc := 86) d_mo_works_86 rfl ?_
          refine ev_dup (pc := 87) d_mo_works_87 rfl ?_
          refine ev_getJ (v := (gI X 55 6)) (pc := 88) d_mo_works_88 f_mo_219 (ly_at (ly_sI (ly_sI (ly_sI (ly_sI hX)))) 55 rfl) gg_12 rfl rfl ?_
          refine ev_iconst (v := 1) (pc := 91) d_mo_works_91 kc_i_1 ?_
          refine ev_iadd (pc := 92) d_mo_works_92 ?_
          refine ev_putI (pc := 93) d_mo_works_93 f_mo_219 (ly_at (ly_sI (ly_sI (ly_sI (ly_sI hX)))) 55 rfl) gg_12 rfl (Or.inl rfl) (vp_nar_int _) rfl ?_
          refine ev_aload_n (x := 55) (pc := 96) d_mo_works_96 rfl ?_
          refine ev_getJ (v := ((gI X 55 6) + 1)) (pc := 97) d_mo_works_97 f_mo_219 (ly_at (ly_sI (ly_sI (ly_sI (ly_sI (ly_sI hX))))) 55 rfl) gg_12 rfl rfl ?_
          refine ev_iconst (v := 1) (pc := 100) d_mo_works_100 kc_i_1 ?_
          refine ev_isub (pc := 101) d_mo_works_101 ?_
          exact ev_iret (pc := 102) ⟨Nat.le_of_ble_eq_true rfl, Nat.le_of_ble_eq_true rfl⟩ d_mo_works_102 rfl (vp_nar_int _) h_11.2
        · have h_12 := h_8.2 c_10
          refine ev_bipush (v := (-4)) (pc := 43) d_mo_works_43 kc_b_m4 ?_
          exact ev_iret (pc := 45) ⟨Nat.le_of_ble_eq_true rfl, Nat.le_of_ble_eq_true rfl⟩ d_mo_works_45 rfl (vp_nar_int _) h_12
      · have h_9 := h_6.2 c_7
        refine ev_bipush (v := (-2)) (pc := 32) d_mo_works_32 kc_b_m2 ?_
        exact ev_iret (pc := 34) ⟨Nat.le_of_ble_eq_true rfl, Nat.le_of_ble_eq_true rfl⟩ d_mo_works_34 rfl (vp_nar_int _) h_9
  · have h_3 := hh.2 c_1
    refine ev_iconst (v := (-1)) (pc := 8) d_mo_works_8 kc_i_m1 ?_
    exact ev_iret (pc := 9) ⟨Nat.le_of_ble_eq_true rfl, Nat.le_of_ble_eq_true rfl⟩ d_mo_works_9 rfl (vp_nar_int _) h_3
theorem b_mo_close_0 {E : gp_E} {S : gp_S} {X : gp_H} {Q : Option Value → gp_H → Prop} {x1 : Int32} (hX : Lay S X)  (hh : (((iw x1 0 ((gI X 55 6) - 1)) = true → (vp_in x1 5 ∧ ((¬ (gI X 63 (Int32.toNatClampNeg x1)) = 0 → Q (some (.int 1)) (gp_sI X 63 (Int32.toNatClampNeg x1) 0)) ∧ ((gI X 63 (Int32.toNatClampNeg x1)) = 0 → Q (some (.int (-3))) X)))) ∧ ((iw x1 0 ((gI X 55 6) - 1)) = false → Q (some (.int (-1))) X))) : Ev E m_mo_close 0 [(0, .ref 55), (1, .int x1)] [] X (0, 0) Q := by
  refine ev_iload_n (x := x1) (pc := 0) d_mo_close_0 rfl ?_
  refine ev_iconst (v := 0) (pc := 1) d_mo_close_1 kc_i_0 ?_
  refine ev_aload_n (x := 55) (pc := 2) d_mo_close_2 rfl ?_
  refine ev_getJ (v := (gI X 55 6)) (pc := 3) d_mo_close_3 f_mo_219 (ly_at hX 55 rfl) gg_12 rfl rfl ?_
  refine ev_iconst (v := 1) (pc := 6) d_mo_close_6 kc_i_1 ?_
  refine ev_isub (pc := 7) d_mo_close_7 ?_
  refine ev_callS (z := m_mo_in) (as := [.int x1, .int 0, .int ((gI X 55 6) - 1)]) (rest := []) (pc := 8) d_mo_close_8 l_mo_196 i_mo_in o_mo_in rfl rfl (Nat.le_of_ble_eq_true rfl) rfl (Nat.le_of_ble_eq_true rfl) ⟨Nat.le_of_ble_eq_true rfl, Nat.le_of_ble_eq_true rfl⟩ (s_mo_in hX x1 0 ((gI X 55 6) - 1)) (fun r X1 hq => ?_)
  obtain ⟨rfl, rfl⟩ := hq
  show Ev E m_mo_close 11 [(0, .ref 55), (1, .int x1)] [.int (bz (iw x1 0 ((gI X 55 6) - 1)))] X (0, 0) Q
  refine ev_ifz_ne (pc := 11) (tgt := 16) d_mo_close_11 (by decide) (fun c_1 => ?_) (fun c_1 => ?_)
  · have h_2 := hh.1 c_1
    refine ev_aload_n (x := 55) (pc := 16) d_mo_close_16 rfl ?_
    refine ev_getR (pc := 17) d_mo_close_17 f_mo_32 (ly_at hX 55 rfl) gg_12 rfl (ly_rf hX 55 10 rfl) ?_
    refine ev_iload_n (x := x1) (pc := 20) d_mo_close_20 rfl ?_
    refine ev_zaldJ (v := (gI X 63 (Int32.toNatClampNeg x1))) (pc := 21) d_mo_close_21 (ly_at hX 63 rfl) h_2.1 rfl ?_
    refine ev_if_ne (pc := 22) (tgt := 28) d_mo_close_22 (by decide) (fun c_4 => ?_) (fun c_4 => ?_)
    · have h_5 := h_2.2.1 c_4
      refine ev_aload_n (x := 55) (pc := 28) d_mo_close_28 rfl ?_
      refine ev_getR (pc := 29) d_mo_close_29 f_mo_32 (ly_at hX 55 rfl) gg_12 rfl (ly_rf hX 55 10 rfl) ?_
      refine ev_iload_n (x := x1) (pc := 32) d_mo_close_32 rfl ?_
      refine ev_iconst (v := 0) (pc := 33) d_mo_close_33 kc_i_0 ?_
      refine ev_zast (pc := 34) d_mo_close_34 (ly_at hX 63 rfl) h_2.1 nb_0 ?_
      refine ev_iconst (v := 1) (pc := 35) d_mo_close_35 kc_i_1 ?_
      exact ev_iret (pc := 36) ⟨Nat.le_of_ble_eq_true rfl, Nat.le_of_ble_eq_true rfl⟩ d_mo_close_36 rfl (vp_nar_int _) h_5
    · have h_6 := h_2.2.2 c_4
      refine ev_bipush (v := (-3)) (pc := 25) d_mo_close_25 kc_b_m3 ?_
      exact ev_iret (pc := 27) ⟨Nat.le_of_ble_eq_true rfl, Nat.le_of_ble_eq_true rfl⟩ d_mo_close_27 rfl (vp_nar_int _) h_6
  · have h_3 := hh.2 c_1
    refine ev_iconst (v := (-1)) (pc := 14) d_mo_close_14 kc_i_m1 ?_
    exact ev_iret (pc := 15) ⟨Nat.le_of_ble_eq_true rfl, Nat.le_of_ble_eq_true rfl⟩ d_mo_close_15 rfl (vp_nar_int _) h_3
theorem b_mo_work_0 {E : gp_E} {S : gp_S} {X : gp_H} {Q : Option Value → gp_H → Prop} {x1 : Int32} {x2 : Int32} (hX : Lay S X)  (hh : (((iw x1 0 ((gI X 55 6) - 1)) = true → (((x2.toInt < 0 ∨ 4 < x2.toInt) → Q (some (.int (-5))) X) ∧ (x2 = 0 → (vp_in x1 5 ∧ Q (some (.int (gI X 60 (Int32.toNatClampNeg x1)))) X)) ∧ (x2 = 1 → (vp_in x1 5 ∧ Q (some (.int (gI X 61 (Int32.toNatClampNeg x1)))) X)) ∧ (x2 = 2 → (vp_in x1 5 ∧ Q (some (.int (gI X 62 (Int32.toNatClampNeg x1)))) X)) ∧ (x2 = 3 → (vp_in x1 5 ∧ (((gI X 63 (Int32.toNatClampNeg x1)) = 0 → Q (some (.int 0)) X) ∧ (¬ (gI X 63 (Int32.toNatClampNeg x1)) = 0 → Q (some (.int 1)) X)))) ∧ (x2 = 4 → (vp_in x1 5 ∧ (∃ Qz_13, Ev E m_mo_areaOf 0 [(0, .ref 55), (1, .int (gI X 60 (Int32.toNatClampNeg x1)))] [] X (0, 0) Qz_13 ∧ ∀ r X_16, Qz_13 r X_16 → ∃ v_21 : Int32, r = some (.int v_21) ∧ Lay S X_16 ∧ (((gI X_16 63 (Int32.toNatClampNeg x1)) = 0 → Q (some (.int 0)) X_16) ∧ (¬ (gI X_16 63 (Int32.toNatClampNeg x1)) = 0 → (∃ Qz_25, Ev E m_mo_makeAt 0 [(0, .ref 55), (1, .int v_21)] [] X_16 (0, 0) Qz_25 ∧ ∀ r X_28, Qz_25 r X_28 → ∃ v_33 : Int32, r = some (.int v_33) ∧ Lay S X_28 ∧ (∃ Qz_34, Ev E m_mo_useAt 0 [(0, .ref 55), (1, .int v_21), (2, .int 1)] [] X_28 (0, 0) Qz_34 ∧ ∀ r X_37, Qz_34 r X_37 → ∃ v_42 : Int32, r = some (.int v_42) ∧ Lay S X_37 ∧ (((v_33 - (gI X_28 61 (Int32.toNatClampNeg x1))) < v_42 → Q (some (.int 0)) X_37) ∧ (¬ (v_33 - (gI X_28 61 (Int32.toNatClampNeg x1))) < v_42 → Q (some (.int 1)) X_37))))))))))) ∧ ((iw x1 0 ((gI X 55 6) - 1)) = false → Q (some (.int (-5))) X))) : Ev E m_mo_work 0 [(0, .ref 55), (1, .int x1), (2, .int x2)] [] X (0, 0) Q := by
  refine ev_iload_n (x := x1) (pc := 0) d_mo_work_0 rfl ?_
  refine ev_iconst (v := 0) (pc := 1) d_mo_work_1 kc_i_0 ?_
  refine ev_aload_n (x := 55) (pc := 2) d_mo_work_2 rfl ?_
  refine ev_getJ (v := (gI X 55 6)) (pc := 3) d_mo_work_3 f_mo_219 (ly_at hX 55 rfl) gg_12 rfl rfl ?_
  refine ev_iconst (v := 1) (pc := 6) d_mo_work_6 kc_i_1 ?_
  refine ev_isub (pc := 7) d_mo_work_7 ?_
  refine ev_callS (z := m_mo_in) (as := [.int x1, .int 0, .int ((gI X 55 6) - 1)]) (rest := []) (pc := 8) d_mo_work_8 l_mo_196 i_mo_in o_mo_in rfl rfl (Nat.le_of_ble_eq_true rfl) rfl (Nat.le_of_ble_eq_true rfl) ⟨Nat.le_of_ble_eq_true rfl, Nat.le_of_ble_eq_true rfl⟩ (s_mo_in hX x1 0 ((gI X 55 6) - 1)) (fun r X1 hq => ?_)
  obtain ⟨rfl, rfl⟩ := hq
  show Ev E m_mo_work 11 [(0, .ref 55), (1, .int x1), (2, .int x2)] [.int (bz (iw x1 0 ((gI X 55 6) - 1)))] X (0, 0) Q
  refine ev_ifz_ne (pc := 11) (tgt := 17) d_mo_work_11 (by decide) (fun c_1 => ?_) (fun c_1 => ?_)
  · have h_2 := hh.1 c_1
    refine ev_iload_n (x := x2) (pc := 17) d_mo_work_17 rfl ?_
    rcases gp_tab (lo := 0) (n := 5) x2 with c_46 | ⟨k, hk, c_46⟩
    · have h_4 := h_2.1 (by omega)
      refine ev_tableOut (pc := 18) (tgt := 135) d_mo_work_18 (by omega) (by decide) ?_
      refine ev_bipush (v := (-5)) (pc := 135) d_mo_work_135 kc_b_m5 ?_
      exact ev_iret (pc := 137) ⟨Nat.le_of_ble_eq_true rfl, Nat.le_of_ble_eq_true rfl⟩ d_mo_work_137 rfl (vp_nar_int _) h_4
    · match k, hk, c_46 with
      | 0, _, c_46 =>
        have c_46e : x2 = 0 := gp_eqi (c_46.trans (by decide : (0 : Int) + ((0 : Nat) : Int) = 0)) (by decide)
        have h_5 := h_2.2.1 c_46e
        refine ev_tableIn (pc := 18) (off := 34) (tgt := 52) d_mo_work_18 (by rw [c_46e]; decide) (by rw [c_46e]; decide) (by rw [c_46e]; decide) (by decide) ?_
        refine ev_aload_n (x := 55) (pc := 52) d_mo_work_52 rfl ?_
        refine ev_getR (pc := 53) d_mo_work_53 f_mo_23 (ly_at hX 55 rfl) gg_12 rfl (ly_rf hX 55 7 rfl) ?_
        refine ev_iload_n (x := x1) (pc := 56) d_mo_work_56 rfl ?_
        refine ev_ialdJ (v := (gI X 60 (Int32.toNatClampNeg x1))) (pc := 57) d_mo_work_57 (ly_at hX 60 rfl) h_5.1 rfl ?_
        exact ev_iret (pc := 58) ⟨Nat.le_of_ble_eq_true rfl, Nat.le_of_ble_eq_true rfl⟩ d_mo_work_58 rfl (vp_nar_int _) h_5.2
      | 1, _, c_46 =>
        have c_46e : x2 = 1 := gp_eqi (c_46.trans (by decide : (0 : Int) + ((1 : Nat) : Int) = 1)) (by decide)
        have h_6 := h_2.2.2.1 c_46e
        refine ev_tableIn (pc := 18) (off := 41) (tgt := 59) d_mo_work_18 (by rw [c_46e]; decide) (by rw [c_46e]; decide) (by rw [c_46e]; decide) (by decide) ?_
        refine ev_aload_n (x := 55) (pc := 59) d_mo_work_59 rfl ?_
        refine ev_getR (pc := 60) d_mo_work_60 f_mo_26 (ly_at hX 55 rfl) gg_12 rfl (ly_rf hX 55 8 rfl) ?_
        refine ev_iload_n (x := x1) (pc := 63) d_mo_work_63 rfl ?_
        refine ev_ialdJ (v := (gI X 61 (Int32.toNatClampNeg x1))) (pc := 64) d_mo_work_64 (ly_at hX 61 rfl) h_6.1 rfl ?_
        exact ev_iret (pc := 65) ⟨Nat.le_of_ble_eq_true rfl, Nat.le_of_ble_eq_true rfl⟩ d_mo_work_65 rfl (vp_nar_int _) h_6.2
      | 2, _, c_46 =>
        have c_46e : x2 = 2 := gp_eqi (c_46.trans (by decide : (0 : Int) + ((2 : Nat) : Int) = 2)) (by decide)
        have h_7 := h_2.2.2.2.1 c_46e
        refine ev_tableIn (pc := 18) (off := 48) (tgt := 66) d_mo_work_18 (by rw [c_46e]; decide) (by rw [c_46e]; decide) (by rw [c_46e]; decide) (by decide) ?_
        refine ev_aload_n (x := 55) (pc := 66) d_mo_work_66 rfl ?_
        refine ev_getR (pc := 67) d_mo_work_67 f_mo_29 (ly_at hX 55 rfl) gg_12 rfl (ly_rf hX 55 9 rfl) ?_
        refine ev_iload_n (x := x1) (pc := 70) d_mo_work_70 rfl ?_
        refine ev_ialdJ (v := (gI X 62 (Int32.toNatClampNeg x1))) (pc := 71) d_mo_work_71 (ly_at hX 62 rfl) h_7.1 rfl ?_
        exact ev_iret (pc := 72) ⟨Nat.le_of_ble_eq_true rfl, Nat.le_of_ble_eq_true rfl⟩ d_mo_work_72 rfl (vp_nar_int _) h_7.2
      | 3, _, c_46 =>
        have c_46e : x2 = 3 := gp_eqi (c_46.trans (by decide : (0 : Int) + ((3 : Nat) : Int) = 3)) (by decide)
        have h_8 := h_2.2.2.2.2.1 c_46e
        refine ev_tableIn (pc := 18) (off := 55) (tgt := 73) d_mo_work_18 (by rw [c_46e]; decide) (by rw [c_46e]; decide) (by rw [c_46e]; decide) (by decide) ?_
        refine ev_aload_n (x := 55) (pc := 73) d_mo_work_73 rfl ?_
        refine ev_getR (pc := 74) d_mo_work_74 f_mo_32 (ly_at hX 55 rfl) gg_12 rfl (ly_rf hX 55 10 rfl) ?_
        refine ev_iload_n (x := x1) (pc := 77) d_mo_work_77 rfl ?_
        refine ev_zaldJ (v := (gI X 63 (Int32.toNatClampNeg x1))) (pc := 78) d_mo_work_78 (ly_at hX 63 rfl) h_8.1 rfl ?_
        refine ev_if_eq (pc := 79) (tgt := 86) d_mo_work_79 (by decide) (fun c_9 => ?_) (fun c_9 => ?_)
        · have h_10 := h_8.2.1 c_9
          refine ev_iconst (v := 0) (pc := 86) d_mo_work_86 kc_i_0 ?_
          exact ev_iret (pc := 87) ⟨Nat.le_of_ble_eq_true rfl, Nat.le_of_ble_eq_true rfl⟩ d_mo_work_87 rfl (vp_nar_int _) h_10
        · have h_11 := h_8.2.2 c_9
          refine ev_iconst (v := 1) (pc := 82) d_mo_work_82 kc_i_1 ?_
          refine ev_goto (pc := 83) (tgt := 87) d_mo_work_83 (by decide) ?_
          exact ev_iret (pc := 87) ⟨Nat.le_of_ble_eq_true rfl, Nat.le_of_ble_eq_true rfl⟩ d_mo_work_87 rfl (vp_nar_int _) h_11
      | 4, _, c_46 =>
        have c_46e : x2 = 4 := gp_eqi (c_46.trans (by decide : (0 : Int) + ((4 : Nat) : Int) = 4)) (by decide)
        have h_12 := h_2.2.2.2.2.2 c_46e
        refine ev_tableIn (pc := 18) (off := 70) (tgt := 88) d_mo_work_18 (by rw [c_46e]; decide) (by rw [c_46e]; decide) (by rw [c_46e]; decide) (by decide) ?_
        refine ev_aload_n (x := 55) (pc := 88) d_mo_work_88 rfl ?_
        refine ev_aload_n (x := 55) (pc := 89) d_mo_work_89 rfl ?_
        refine ev_getR (pc := 90) d_mo_work_90 f_mo_23 (ly_at hX 55 rfl) gg_12 rfl (ly_rf hX 55 7 rfl) ?_
        refine ev_iload_n (x := x1) (pc := 93) d_mo_work_93 rfl ?_
        refine ev_ialdJ (v := (gI X 60 (Int32.toNatClampNeg x1))) (pc := 94) d_mo_work_94 (ly_at hX 60 rfl) h_12.1 rfl ?_
        obtain ⟨Qz_13, hc_14, hk_15⟩ := h_12.2
        refine ev_callV (z := m_mo_areaOf) (as := [.int (gI X 60 (Int32.toNatClampNeg x1))]) (rest := []) (pc := 95) d_mo_work_95 (ly_at hX 55 rfl) lt13_12 rfl l_mo_234 i_mo_areaOf v_mo_areaOf o_mo_areaOf rfl rfl (Nat.le_of_ble_eq_true rfl) rfl (Nat.le_of_ble_eq_true rfl) ⟨Nat.le_of_ble_eq_true rfl, Nat.le_of_ble_eq_true rfl⟩ hc_14 (fun r_17 X_16 hq_18 => ?_)
        obtain ⟨v_21, rfl, hX_20, h_19⟩ := hk_15 _ _ hq_18
        show Ev E m_mo_work 98 [(0, .ref 55), (1, .int x1), (2, .int x2)] [.int v_21] X_16 (0, 0) Q
        refine ev_istore_n (L2 := [(0, .ref 55), (1, .int x1), (2, .int x2), (3, .int v_21)]) (pc := 98) d_mo_work_98 rfl (Nat.le_of_ble_eq_true rfl) rfl ?_
        refine ev_aload_n (x := 55) (pc := 99) d_mo_work_99 rfl ?_
        refine ev_getR (pc := 100) d_mo_work_100 f_mo_32 (ly_at hX_20 55 rfl) gg_12 rfl (ly_rf hX_20 55 10 rfl) ?_
        refine ev_iload_n (x := x1) (pc := 103) d_mo_work_103 rfl ?_
        refine ev_zaldJ (v := (gI X_16 63 (Int32.toNatClampNeg x1))) (pc := 104) d_mo_work_104 (ly_at hX_20 63 rfl) h_12.1 rfl ?_
        refine ev_if_eq (pc := 105) (tgt := 133) d_mo_work_105 (by decide) (fun c_22 => ?_) (fun c_22 => ?_)
        · have h_23 := h_19.1 c_22
          refine ev_iconst (v := 0) (pc := 133) d_mo_work_133 kc_i_0 ?_
          exact ev_iret (pc := 134) ⟨Nat.le_of_ble_eq_true rfl, Nat.le_of_ble_eq_true rfl⟩ d_mo_work_134 rfl (vp_nar_int _) h_23
        · have h_24 := h_19.2 c_22
          refine ev_aload_n (x := 55) (pc := 108) d_mo_work_108 rfl ?_
          refine ev_iload_n (x := v_21) (pc := 109) d_mo_work_109 rfl ?_
          obtain ⟨Qz_25, hc_26, hk_27⟩ := h_24
          refine ev_callV (z := m_mo_makeAt) (as := [.int v_21]) (rest := []) (pc := 110) d_mo_work_110 (ly_at hX_20 55 rfl) lt13_12 rfl l_mo_238 i_mo_makeAt v_mo_makeAt o_mo_makeAt rfl rfl (Nat.le_of_ble_eq_true rfl) rfl (Nat.le_of_ble_eq_true rfl) ⟨Nat.le_of_ble_eq_true rfl, Nat.le_of_ble_eq_true rfl⟩ hc_26 (fun r_29 X_28 hq_30 => ?_)
          obtain ⟨v_33, rfl, hX_32, h_31⟩ := hk_27 _ _ hq_30
          show Ev E m_mo_work 113 [(0, .ref 55), (1, .int x1), (2, .int x2), (3, .int v_21)] [.int v_33] X_28 (0, 0) Q
          refine ev_aload_n (x := 55) (pc := 113) d_mo_work_113 rfl ?_
          refine ev_getR (pc := 114) d_mo_work_114 f_mo_26 (ly_at hX_32 55 rfl) gg_12 rfl (ly_rf hX_32 55 8 rfl) ?_
          refine ev_iload_n (x := x1) (pc := 117) d_mo_work_117 rfl ?_
          refine ev_ialdJ (v := (gI X_28 61 (Int32.toNatClampNeg x1))) (pc := 118) d_mo_work_118 (ly_at hX_32 61 rfl) h_12.1 rfl ?_
          refine ev_isub (pc := 119) d_mo_work_119 ?_
          refine ev_aload_n (x := 55) (pc := 120) d_mo_work_120 rfl ?_
          refine ev_iload_n (x := v_21) (pc := 121) d_mo_work_121 rfl ?_
          refine ev_iconst (v := 1) (pc := 122) d_mo_work_122 kc_i_1 ?_
          obtain ⟨Qz_34, hc_35, hk_36⟩ := h_31
          refine ev_callV (z := m_mo_useAt) (as := [.int v_21, .int 1]) (rest := [.int (v_33 - (gI X_28 61 (Int32.toNatClampNeg x1)))]) (pc := 123) d_mo_work_123 (ly_at hX_32 55 rfl) lt13_12 rfl l_mo_241 i_mo_useAt v_mo_useAt o_mo_useAt rfl rfl (Nat.le_of_ble_eq_true rfl) rfl (Nat.le_of_ble_eq_true rfl) ⟨Nat.le_of_ble_eq_true rfl, Nat.le_of_ble_eq_true rfl⟩ hc_35 (fun r_38 X_37 hq_39 => ?_)
          obtain ⟨v_42, rfl, hX_41, h_40⟩ := hk_36 _ _ hq_39
          show Ev E m_mo_work 126 [(0, .ref 55), (1, .int x1), (2, .int x2), (3, .int v_21)] [.int v_42, .int (v_33 - (gI X_28 61 (Int32.toNatClampNeg x1)))] X_37 (0, 0) Q
          refine ev_icmp_lt (pc := 126) (tgt := 133) d_mo_work_126 (by decide) (fun c_43 => ?_) (fun c_43 => ?_)
          · have h_44 := h_40.1 c_43
            refine ev_iconst (v := 0) (pc := 133) d_mo_work_133 kc_i_0 ?_
            exact ev_iret (pc := 134) ⟨Nat.le_of_ble_eq_true rfl, Nat.le_of_ble_eq_true rfl⟩ d_mo_work_134 rfl (vp_nar_int _) h_44
          · have h_45 := h_40.2 c_43
            refine ev_iconst (v := 1) (pc := 129) d_mo_work_129 kc_i_1 ?_
            refine ev_goto (pc := 130) (tgt := 134) d_mo_work_130 (by decide) ?_
            exact ev_iret (pc := 134) ⟨Nat.le_of_ble_eq_true rfl, Nat.le_of_ble_eq_true rfl⟩ d_mo_work_134 rfl (vp_nar_int _) h_45
      | k + 5, hk, _ => exact absurd hk (by omega)
  · have h_3 := hh.2 c_1
    refine ev_bipush (v := (-5)) (pc := 14) d_mo_work_14 kc_b_m5 ?_
    exact ev_iret (pc := 16) ⟨Nat.le_of_ble_eq_true rfl, Nat.le_of_ble_eq_true rfl⟩ d_mo_work_16 rfl (vp_nar_int _) h_3
theorem b_mo_areaOf_0 {E : gp_E} {S : gp_S} {X : gp_H} {Q : Option Value → gp_H → Prop} {x1 : Int32} (hX : Lay S X)  (hh : (∃ Qz_1, Ev E m_mo_reach 0 [(0, .ref 55), (1, .int x1), (2, .int (((1 : Int32) <<< ((gI X 55 0) &&& 31)) - 1)), (3, .int 1)] [] X (0, 0) Qz_1 ∧ ∀ r X_4, Qz_1 r X_4 → ∃ v_9 : Int32, r = some (.int v_9) ∧ Lay S X_4 ∧ Q (some (.int v_9)) X_4)) : Ev E m_mo_areaOf 0 [(0, .ref 55), (1, .int x1)] [] X (0, 0) Q := by
  refine ev_aload_n (x := 55) (pc := 0) d_mo_areaOf_0 rfl ?_
  refine ev_iload_n (x := x1) (pc := 1) d_mo_areaOf_1 rfl ?_
  refine ev_aload_n (x := 55) (pc := 2) d_mo_areaOf_2 rfl ?_
  refine ev_callV (z := m_mo_all) (as := []) (rest := [.int x1, .ref 55]) (pc := 3) d_mo_areaOf_3 (ly_at hX 55 rfl) lt13_12 rfl l_mo_226 i_mo_all v_mo_all o_mo_all rfl rfl (Nat.le_of_ble_eq_true rfl) rfl (Nat.le_of_ble_eq_true rfl) ⟨Nat.le_of_ble_eq_true rfl, Nat.le_of_ble_eq_true rfl⟩ (s_mo_all hX  ) (fun r X1 hq => ?_)
  obtain ⟨rfl, rfl⟩ := hq
  show Ev E m_mo_areaOf 6 [(0, .ref 55), (1, .int x1)] [.int (((1 : Int32) <<< ((gI X 55 0) &&& 31)) - 1), .int x1, .ref 55] X (0, 0) Q
  refine ev_iconst (v := 1) (pc := 6) d_mo_areaOf_6 kc_i_1 ?_
  obtain ⟨Qz_1, hc_2, hk_3⟩ := hh
  refine ev_callV (z := m_mo_reach) (as := [.int x1, .int (((1 : Int32) <<< ((gI X 55 0) &&& 31)) - 1), .int 1]) (rest := []) (pc := 7) d_mo_areaOf_7 (ly_at hX 55 rfl) lt13_12 rfl l_mo_230 i_mo_reach v_mo_reach o_mo_reach rfl rfl (Nat.le_of_ble_eq_true rfl) rfl (Nat.le_of_ble_eq_true rfl) ⟨Nat.le_of_ble_eq_true rfl, Nat.le_of_ble_eq_true rfl⟩ hc_2 (fun r_5 X_4 hq_6 => ?_)
  obtain ⟨v_9, rfl, hX_8, h_7⟩ := hk_3 _ _ hq_6
  show Ev E m_mo_areaOf 10 [(0, .ref 55), (1, .int x1)] [.int v_9] X_4 (0, 0) Q
  exact ev_iret (pc := 10) ⟨Nat.le_of_ble_eq_true rfl, Nat.le_of_ble_eq_true rfl⟩ d_mo_areaOf_10 rfl (vp_nar_int _) h_7
theorem b_mo_reach_0 {E : gp_E} {S : gp_S} {X : gp_H} {Q : Option Value → gp_H → Prop} {x1 : Int32} {x2 : Int32} {x3 : Int32} (hX : Lay S X)  (hh : Ev E m_mo_reach 10 [(0, .ref 55), (1, .int x1), (2, .int x2), (3, .int x3), (4, .int (((1 : Int32) <<< (x1 &&& 31)) &&& x2)), (5, .int 0)] [] X (0, 0) Q) : Ev E m_mo_reach 0 [(0, .ref 55), (1, .int x1), (2, .int x2), (3, .int x3)] [] X (0, 0) Q := by
  refine ev_iconst (v := 1) (pc := 0) d_mo_reach_0 kc_i_1 ?_
  refine ev_iload_n (x := x1) (pc := 1) d_mo_reach_1 rfl ?_
  refine ev_ishl (pc := 2) d_mo_reach_2 ?_
  refine ev_iload_n (x := x2) (pc := 3) d_mo_reach_3 rfl ?_
  refine ev_iand (pc := 4) d_mo_reach_4 ?_
  refine ev_istore (L2 := [(0, .ref 55), (1, .int x1), (2, .int x2), (3, .int x3), (4, .int (((1 : Int32) <<< (x1 &&& 31)) &&& x2))]) (pc := 5) d_mo_reach_5 rfl (Nat.le_of_ble_eq_true rfl) rfl ?_
  refine ev_iconst (v := 0) (pc := 7) d_mo_reach_7 kc_i_0 ?_
  refine ev_istore (L2 := [(0, .ref 55), (1, .int x1), (2, .int x2), (3, .int x3), (4, .int (((1 : Int32) <<< (x1 &&& 31)) &&& x2)), (5, .int 0)]) (pc := 8) d_mo_reach_8 rfl (Nat.le_of_ble_eq_true rfl) rfl ?_
  exact hh
theorem b_mo_reach_10 {E : gp_E} {S : gp_S} {X : gp_H} {Q : Option Value → gp_H → Prop} {x1 : Int32} {x2 : Int32} {x3 : Int32} {x4 : Int32} {x5 : Int32} (hX : Lay S X)  (hh : ((x5 = x4 → Q (some (.int x4)) X) ∧ (¬ x5 = x4 → Ev E m_mo_reach 24 [(0, .ref 55), (1, .int x1), (2, .int x2), (3, .int x3), (4, .int x4), (5, .int x4), (6, .int 0)] [] X (0, 0) Q))) : Ev E m_mo_reach 10 [(0, .ref 55), (1, .int x1), (2, .int x2), (3, .int x3), (4, .int x4), (5, .int x5)] [] X (0, 0) Q := by
  refine ev_iload (x := x5) (pc := 10) d_mo_reach_10 rfl ?_
  refine ev_iload (x := x4) (pc := 12) d_mo_reach_12 rfl ?_
  refine ev_icmp_eq (pc := 14) (tgt := 150) d_mo_reach_14 (by decide) (fun c_1 => ?_) (fun c_1 => ?_)
  · have h_2 := hh.1 c_1
    refine ev_iload (x := x4) (pc := 150) d_mo_reach_150 rfl ?_
    exact ev_iret (pc := 152) ⟨Nat.le_of_ble_eq_true rfl, Nat.le_of_ble_eq_true rfl⟩ d_mo_reach_152 rfl (vp_nar_int _) h_2
  · have h_3 := hh.2 c_1
    refine ev_iload (x := x4) (pc := 17) d_mo_reach_17 rfl ?_
    refine ev_istore (L2 := [(0, .ref 55), (1, .int x1), (2, .int x2), (3, .int x3), (4, .int x4), (5, .int x4)]) (pc := 19) d_mo_reach_19 rfl (Nat.le_of_ble_eq_true rfl) rfl ?_
    refine ev_iconst (v := 0) (pc := 21) d_mo_reach_21 kc_i_0 ?_
    refine ev_istore (L2 := [(0, .ref 55), (1, .int x1), (2, .int x2), (3, .int x3), (4, .int x4), (5, .int x4), (6, .int 0)]) (pc := 22) d_mo_reach_22 rfl (Nat.le_of_ble_eq_true rfl) rfl ?_
    exact h_3
theorem b_mo_reach_24 {E : gp_E} {S : gp_S} {X : gp_H} {Q : Option Value → gp_H → Prop} {x1 : Int32} {x2 : Int32} {x3 : Int32} {x4 : Int32} {x5 : Int32} {x6 : Int32} (hX : Lay S X)  (hh : (((gI X 55 1) ≤ x6 → Ev E m_mo_reach 10 [(0, .ref 55), (1, .int x1), (2, .int x2), (3, .int x3), (4, .int x4), (5, .int x5)] [] X (0, 0) Q) ∧ (¬ (gI X 55 1) ≤ x6 → (vp_in x6 20 ∧ ((¬ (gI X 59 (Int32.toNatClampNeg x6)) = 0 → Ev E m_mo_reach 47 [(0, .ref 55), (1, .int x1), (2, .int x2), (3, .int x3), (4, .int x4), (5, .int x5), (6, .int x6)] [] X (0, 0) Q) ∧ ((gI X 59 (Int32.toNatClampNeg x6)) = 0 → ((¬ x3 = 0 → Ev E m_mo_reach 79 [(0, .ref 55), (1, .int x1), (2, .int x2), (3, .int x3), (4, .int x4), (5, .int x5), (6, .int x6)] [] X (0, 0) Q) ∧ (x3 = 0 → Ev E m_mo_reach 47 [(0, .ref 55), (1, .int x1), (2, .int x2), (3, .int x3), (4, .int x4), (5, .int x5), (6, .int x6)] [] X (0, 0) Q)))))))) : Ev E m_mo_reach 24 [(0, .ref 55), (1, .int x1), (2, .int x2), (3, .int x3), (4, .int x4), (5, .int x5), (6, .int x6)] [] X (0, 0) Q := by
  refine ev_iload (x := x6) (pc := 24) d_mo_reach_24 rfl ?_
  refine ev_aload_n (x := 55) (pc := 26) d_mo_reach_26 rfl ?_
  refine ev_getJ (v := (gI X 55 1)) (pc := 27) d_mo_reach_27 f_mo_216 (ly_at hX 55 rfl) gg_12 rfl rfl ?_
  refine ev_icmp_ge (pc := 30) (tgt := 147) d_mo_reach_30 (by decide) (fun c_1 => ?_) (fun c_1 => ?_)
  · have h_2 := hh.1 c_1
    refine ev_goto (pc := 147) (tgt := 10) d_mo_reach_147 (by decide) ?_
    exact ev_sub [(0, .ref 55), (1, .int x1), (2, .int x2), (3, .int x3), (4, .int x4), (5, .int x5)] (List.forall_mem_cons.mpr ⟨rfl, (List.forall_mem_cons.mpr ⟨rfl, (List.forall_mem_cons.mpr ⟨rfl, (List.forall_mem_cons.mpr ⟨rfl, (List.forall_mem_cons.mpr ⟨rfl, (List.forall_mem_cons.mpr ⟨rfl, (fun _ h => nomatch h)⟩)⟩)⟩)⟩)⟩)⟩) h_2
  · have h_3 := hh.2 c_1
    refine ev_aload_n (x := 55) (pc := 33) d_mo_reach_33 rfl ?_
    refine ev_getR (pc := 34) d_mo_reach_34 f_mo_20 (ly_at hX 55 rfl) gg_12 rfl (ly_rf hX 55 5 rfl) ?_
    refine ev_iload (x := x6) (pc := 37) d_mo_reach_37 rfl ?_
    refine ev_zaldJ (v := (gI X 59 (Int32.toNatClampNeg x6))) (pc := 39) d_mo_reach_39 (ly_at hX 59 rfl) h_3.1 rfl ?_
    refine ev_if_ne (pc := 40) (tgt := 47) d_mo_reach_40 (by decide) (fun c_4 => ?_) (fun c_4 => ?_)
    · have h_5 := h_3.2.1 c_4
      exact h_5
    · have h_6 := h_3.2.2 c_4
      refine ev_iload_n (x := x3) (pc := 43) d_mo_reach_43 rfl ?_
      refine ev_if_ne (pc := 44) (tgt := 79) d_mo_reach_44 (by decide) (fun c_7 => ?_) (fun c_7 => ?_)
      · have h_8 := h_6.1 c_7
        exact h_8
      · have h_9 := h_6.2 c_7
        exact h_9
theorem b_mo_reach_47 {E : gp_E} {S : gp_S} {X : gp_H} {Q : Option Value → gp_H → Prop} {x1 : Int32} {x2 : Int32} {x3 : Int32} {x4 : Int32} {x5 : Int32} {x6 : Int32} (hX : Lay S X)  (hh : (vp_in x6 20 ∧ (((gb x2 (gI X 56 (Int32.toNatClampNeg x6))) = false → Ev E m_mo_reach 79 [(0, .ref 55), (1, .int x1), (2, .int x2), (3, .int x3), (4, .int x4), (5, .int x5), (6, .int x6)] [] X (0, 0) Q) ∧ ((gb x2 (gI X 56 (Int32.toNatClampNeg x6))) = true → (((gb x2 (gI X 57 (Int32.toNatClampNeg x6))) = false → Ev E m_mo_reach 79 [(0, .ref 55), (1, .int x1), (2, .int x2), (3, .int x3), (4, .int x4), (5, .int x5), (6, .int x6)] [] X (0, 0) Q) ∧ ((gb x2 (gI X 57 (Int32.toNatClampNeg x6))) = true → Ev E m_mo_reach 80 [(0, .ref 55), (1, .int x1), (2, .int x2), (3, .int x3), (4, .int x4), (5, .int x5), (6, .int x6)] [.int 1] X (0, 0) Q)))))) : Ev E m_mo_reach 47 [(0, .ref 55), (1, .int x1), (2, .int x2), (3, .int x3), (4, .int x4), (5, .int x5), (6, .int x6)] [] X (0, 0) Q := by
  refine ev_iload_n (x := x2) (pc := 47) d_mo_reach_47 rfl ?_
  refine ev_aload_n (x := 55) (pc := 48) d_mo_reach_48 rfl ?_
  refine ev_getR (pc := 49) d_mo_reach_49 f_mo_7 (ly_at hX 55 rfl) gg_12 rfl (ly_rf hX 55 2 rfl) ?_
  refine ev_iload (x := x6) (pc := 52) d_mo_reach_52 rfl ?_
  refine ev_ialdJ (v := (gI X 56 (Int32.toNatClampNeg x6))) (pc := 54) d_mo_reach_54 (ly_at hX 56 rfl) hh.1 rfl ?_
  refine ev_callS (z := m_mo_has) (as := [.int x2, .int (gI X 56 (Int32.toNatClampNeg x6))]) (rest := []) (pc := 55) d_mo_reach_55 l_mo_222 i_mo_has o_mo_has rfl rfl (Nat.le_of_ble_eq_true rfl) rfl (Nat.le_of_ble_eq_true rfl) ⟨Nat.le_of_ble_eq_true rfl, Nat.le_of_ble_eq_true rfl⟩ (s_mo_has hX x2 (gI X 56 (Int32.toNatClampNeg x6))) (fun r X1 hq => ?_)
  obtain ⟨rfl, rfl⟩ := hq
  show Ev E m_mo_reach 58 [(0, .ref 55), (1, .int x1), (2, .int x2), (3, .int x3), (4, .int x4), (5, .int x5), (6, .int x6)] [.int (bz (gb x2 (gI X 56 (Int32.toNatClampNeg x6))))] X (0, 0) Q
  refine ev_ifz_eq (pc := 58) (tgt := 79) d_mo_reach_58 (by decide) (fun c_1 => ?_) (fun c_1 => ?_)
  · have h_2 := hh.2.1 c_1
    exact h_2
  · have h_3 := hh.2.2 c_1
    refine ev_iload_n (x := x2) (pc := 61) d_mo_reach_61 rfl ?_
    refine ev_aload_n (x := 55) (pc := 62) d_mo_reach_62 rfl ?_
    refine ev_getR (pc := 63) d_mo_reach_63 f_mo_13 (ly_at hX 55 rfl) gg_12 rfl (ly_rf hX 55 3 rfl) ?_
    refine ev_iload (x := x6) (pc := 66) d_mo_reach_66 rfl ?_
    refine ev_ialdJ (v := (gI X 57 (Int32.toNatClampNeg x6))) (pc := 68) d_mo_reach_68 (ly_at hX 57 rfl) hh.1 rfl ?_
    refine ev_callS (z := m_mo_has) (as := [.int x2, .int (gI X 57 (Int32.toNatClampNeg x6))]) (rest := []) (pc := 69) d_mo_reach_69 l_mo_222 i_mo_has o_mo_has rfl rfl (Nat.le_of_ble_eq_true rfl) rfl (Nat.le_of_ble_eq_true rfl) ⟨Nat.le_of_ble_eq_true rfl, Nat.le_of_ble_eq_true rfl⟩ (s_mo_has hX x2 (gI X 57 (Int32.toNatClampNeg x6))) (fun r X1 hq => ?_)
    obtain ⟨rfl, rfl⟩ := hq
    show Ev E m_mo_reach 72 [(0, .ref 55), (1, .int x1), (2, .int x2), (3, .int x3), (4, .int x4), (5, .int x5), (6, .int x6)] [.int (bz (gb x2 (gI X 57 (Int32.toNatClampNeg x6))))] X (0, 0) Q
    refine ev_ifz_eq (pc := 72) (tgt := 79) d_mo_reach_72 (by decide) (fun c_4 => ?_) (fun c_4 => ?_)
    · have h_5 := h_3.1 c_4
      exact h_5
    · have h_6 := h_3.2 c_4
      refine ev_iconst (v := 1) (pc := 75) d_mo_reach_75 kc_i_1 ?_
      refine ev_goto (pc := 76) (tgt := 80) d_mo_reach_76 (by decide) ?_
      exact h_6
theorem b_mo_reach_79 {E : gp_E} {S : gp_S} {X : gp_H} {Q : Option Value → gp_H → Prop} {x1 : Int32} {x2 : Int32} {x3 : Int32} {x4 : Int32} {x5 : Int32} {x6 : Int32} (hX : Lay S X)  (hh : Ev E m_mo_reach 80 [(0, .ref 55), (1, .int x1), (2, .int x2), (3, .int x3), (4, .int x4), (5, .int x5), (6, .int x6)] [.int 0] X (0, 0) Q) : Ev E m_mo_reach 79 [(0, .ref 55), (1, .int x1), (2, .int x2), (3, .int x3), (4, .int x4), (5, .int x5), (6, .int x6)] [] X (0, 0) Q := by
  refine ev_iconst (v := 0) (pc := 79) d_mo_reach_79 kc_i_0 ?_
  exact hh
theorem b_mo_reach_80 {E : gp_E} {S : gp_S} {X : gp_H} {Q : Option Value → gp_H → Prop} {x1 : Int32} {x2 : Int32} {x3 : Int32} {x4 : Int32} {x5 : Int32} {x6 : Int32} {t0 : Int32} (hX : Lay S X)  (hh : ((t0 = 0 → Ev E m_mo_reach 24 [(0, .ref 55), (1, .int x1), (2, .int x2), (3, .int x3), (4, .int x4), (5, .int x5), (6, .int (x6 + 1))] [] X (0, 0) Q) ∧ (¬ t0 = 0 → (vp_in x6 20 ∧ (((gb x4 (gI X 56 (Int32.toNatClampNeg x6))) = true → Ev E m_mo_reach 117 [(0, .ref 55), (1, .int x1), (2, .int x2), (3, .int x3), (4, .int x4), (5, .int x5), (6, .int x6), (7, .int t0)] [] X (0, 0) Q) ∧ ((gb x4 (gI X 56 (Int32.toNatClampNeg x6))) = false → (((gb x4 (gI X 57 (Int32.toNatClampNeg x6))) = false → Ev E m_mo_reach 24 [(0, .ref 55), (1, .int x1), (2, .int x2), (3, .int x3), (4, .int x4), (5, .int x5), (6, .int (x6 + 1))] [] X (0, 0) Q) ∧ ((gb x4 (gI X 57 (Int32.toNatClampNeg x6))) = true → Ev E m_mo_reach 117 [(0, .ref 55), (1, .int x1), (2, .int x2), (3, .int x3), (4, .int x4), (5, .int x5), (6, .int x6), (7, .int t0)] [] X (0, 0) Q)))))))) : Ev E m_mo_reach 80 [(0, .ref 55), (1, .int x1), (2, .int x2), (3, .int x3), (4, .int x4), (5, .int x5), (6, .int x6)] [.int t0] X (0, 0) Q := by
  refine ev_istore (L2 := [(0, .ref 55), (1, .int x1), (2, .int x2), (3, .int x3), (4, .int x4), (5, .int x5), (6, .int x6), (7, .int t0)]) (pc := 80) d_mo_reach_80 rfl (Nat.le_of_ble_eq_true rfl) rfl ?_
  refine ev_iload (x := t0) (pc := 82) d_mo_reach_82 rfl ?_
  refine ev_if_eq (pc := 84) (tgt := 141) d_mo_reach_84 (by decide) (fun c_1 => ?_) (fun c_1 => ?_)
  · have h_2 := hh.1 c_1
    refine ev_iinc (v := (x6 + 1)) (L2 := [(0, .ref 55), (1, .int x1), (2, .int x2), (3, .int x3), (4, .int x4), (5, .int x5), (6, .int (x6 + 1)), (7, .int t0)]) (pc := 141) d_mo_reach_141 rfl (by rw [kc_i_1]) rfl (Nat.le_of_ble_eq_true rfl) rfl ?_
    refine ev_goto (pc := 144) (tgt := 24) d_mo_reach_144 (by decide) ?_
    exact ev_sub [(0, .ref 55), (1, .int x1), (2, .int x2), (3, .int x3), (4, .int x4), (5, .int x5), (6, .int (x6 + 1))] (List.forall_mem_cons.mpr ⟨rfl, (List.forall_mem_cons.mpr ⟨rfl, (List.forall_mem_cons.mpr ⟨rfl, (List.forall_mem_cons.mpr ⟨rfl, (List.forall_mem_cons.mpr ⟨rfl, (List.forall_mem_cons.mpr ⟨rfl, (List.forall_mem_cons.mpr ⟨rfl, (fun _ h => nomatch h)⟩)⟩)⟩)⟩)⟩)⟩)⟩) h_2
  · have h_3 := hh.2 c_1
    refine ev_iload (x := x4) (pc := 87) d_mo_reach_87 rfl ?_
    refine ev_aload_n (x := 55) (pc := 89) d_mo_reach_89 rfl ?_
    refine ev_getR (pc := 90) d_mo_reach_90 f_mo_7 (ly_at hX 55 rfl) gg_12 rfl (ly_rf hX 55 2 rfl) ?_
    refine ev_iload (x := x6) (pc := 93) d_mo_reach_93 rfl ?_
    refine ev_ialdJ (v := (gI X 56 (Int32.toNatClampNeg x6))) (pc := 95) d_mo_reach_95 (ly_at hX 56 rfl) h_3.1 rfl ?_
    refine ev_callS (z := m_mo_has) (as := [.int x4, .int (gI X 56 (Int32.toNatClampNeg x6))]) (rest := []) (pc := 96) d_mo_reach_96 l_mo_222 i_mo_has o_mo_has rfl rfl (Nat.le_of_ble_eq_true rfl) rfl (Nat.le_of_ble_eq_true rfl) ⟨Nat.le_of_ble_eq_true rfl, Nat.le_of_ble_eq_true rfl⟩ (s_mo_has hX x4 (gI X 56 (Int32.toNatClampNeg x6))) (fun r X1 hq => ?_)
    obtain ⟨rfl, rfl⟩ := hq
    show Ev E m_mo_reach 99 [(0, .ref 55), (1, .int x1), (2, .int x2), (3, .int x3), (4, .int x4), (5, .int x5), (6, .int x6), (7, .int t0)] [.int (bz (gb x4 (gI X 56 (Int32.toNatClampNeg x6))))] X (0, 0) Q
    refine ev_ifz_ne (pc := 99) (tgt := 117) d_mo_reach_99 (by decide) (fun c_4 => ?_) (fun c_4 => ?_)
    · have h_5 := h_3.2.1 c_4
      exact h_5
    · have h_6 := h_3.2.2 c_4
      refine ev_iload (x := x4) (pc := 102) d_mo_reach_102 rfl ?_
      refine ev_aload_n (x := 55) (pc := 104) d_mo_reach_104 rfl ?_
      refine ev_getR (pc := 105) d_mo_reach_105 f_mo_13 (ly_at hX 55 rfl) gg_12 rfl (ly_rf hX 55 3 rfl) ?_
      refine ev_iload (x := x6) (pc := 108) d_mo_reach_108 rfl ?_
      refine ev_ialdJ (v := (gI X 57 (Int32.toNatClampNeg x6))) (pc := 110) d_mo_reach_110 (ly_at hX 57 rfl) h_3.1 rfl ?_
      refine ev_callS (z := m_mo_has) (as := [.int x4, .int (gI X 57 (Int32.toNatClampNeg x6))]) (rest := []) (pc := 111) d_mo_reach_111 l_mo_222 i_mo_has o_mo_has rfl rfl (Nat.le_of_ble_eq_true rfl) rfl (Nat.le_of_ble_eq_true rfl) ⟨Nat.le_of_ble_eq_true rfl, Nat.le_of_ble_eq_true rfl⟩ (s_mo_has hX x4 (gI X 57 (Int32.toNatClampNeg x6))) (fun r X1 hq => ?_)
      obtain ⟨rfl, rfl⟩ := hq
      show Ev E m_mo_reach 114 [(0, .ref 55), (1, .int x1), (2, .int x2), (3, .int x3), (4, .int x4), (5, .int x5), (6, .int x6), (7, .int t0)] [.int (bz (gb x4 (gI X 57 (Int32.toNatClampNeg x6))))] X (0, 0) Q
      refine ev_ifz_eq (pc := 114) (tgt := 141) d_mo_reach_114 (by decide) (fun c_7 => ?_) (fun c_7 => ?_)
      · have h_8 := h_6.1 c_7
        refine ev_iinc (v := (x6 + 1)) (L2 := [(0, .ref 55), (1, .int x1), (2, .int x2), (3, .int x3), (4, .int x4), (5, .int x5), (6, .int (x6 + 1)), (7, .int t0)]) (pc := 141) d_mo_reach_141 rfl (by rw [kc_i_1]) rfl (Nat.le_of_ble_eq_true rfl) rfl ?_
        refine ev_goto (pc := 144) (tgt := 24) d_mo_reach_144 (by decide) ?_
        exact ev_sub [(0, .ref 55), (1, .int x1), (2, .int x2), (3, .int x3), (4, .int x4), (5, .int x5), (6, .int (x6 + 1))] (List.forall_mem_cons.mpr ⟨rfl, (List.forall_mem_cons.mpr ⟨rfl, (List.forall_mem_cons.mpr ⟨rfl, (List.forall_mem_cons.mpr ⟨rfl, (List.forall_mem_cons.mpr ⟨rfl, (List.forall_mem_cons.mpr ⟨rfl, (List.forall_mem_cons.mpr ⟨rfl, (fun _ h => nomatch h)⟩)⟩)⟩)⟩)⟩)⟩)⟩) h_8
      · have h_9 := h_6.2 c_7
        exact h_9
theorem b_mo_reach_117 {E : gp_E} {S : gp_S} {X : gp_H} {Q : Option Value → gp_H → Prop} {x1 : Int32} {x2 : Int32} {x3 : Int32} {x4 : Int32} {x5 : Int32} {x6 : Int32} {x7 : Int32} (hX : Lay S X)  (hh : (vp_in x6 20 ∧ Ev E m_mo_reach 24 [(0, .ref 55), (1, .int x1), (2, .int x2), (3, .int x3), (4, .int (x4 ||| (((1 : Int32) <<< ((gI X 56 (Int32.toNatClampNeg x6)) &&& 31)) ||| ((1 : Int32) <<< ((gI X 57 (Int32.toNatClampNeg x6)) &&& 31))))), (5, .int x5), (6, .int (x6 + 1))] [] X (0, 0) Q)) : Ev E m_mo_reach 117 [(0, .ref 55), (1, .int x1), (2, .int x2), (3, .int x3), (4, .int x4), (5, .int x5), (6, .int x6), (7, .int x7)] [] X (0, 0) Q := by
  refine ev_iload (x := x4) (pc := 117) d_mo_reach_117 rfl ?_
  refine ev_iconst (v := 1) (pc := 119) d_mo_reach_119 kc_i_1 ?_
  refine ev_aload_n (x := 55) (pc := 120) d_mo_reach_120 rfl ?_
  refine ev_getR (pc := 121) d_mo_reach_121 f_mo_7 (ly_at hX 55 rfl) gg_12 rfl (ly_rf hX 55 2 rfl) ?_
  refine ev_iload (x := x6) (pc := 124) d_mo_reach_124 rfl ?_
  refine ev_ialdJ (v := (gI X 56 (Int32.toNatClampNeg x6))) (pc := 126) d_mo_reach_126 (ly_at hX 56 rfl) hh.1 rfl ?_
  refine ev_ishl (pc := 127) d_mo_reach_127 ?_
  refine ev_iconst (v := 1) (pc := 128) d_mo_reach_128 kc_i_1 ?_
  refine ev_aload_n (x := 55) (pc := 129) d_mo_reach_129 rfl ?_
  refine ev_getR (pc := 130) d_mo_reach_130 f_mo_13 (ly_at hX 55 rfl) gg_12 rfl (ly_rf hX 55 3 rfl) ?_
  refine ev_iload (x := x6) (pc := 133) d_mo_reach_133 rfl ?_
  refine ev_ialdJ (v := (gI X 57 (Int32.toNatClampNeg x6))) (pc := 135) d_mo_reach_135 (ly_at hX 57 rfl) hh.1 rfl ?_
  refine ev_ishl (pc := 136) d_mo_reach_136 ?_
  refine ev_ior (pc := 137) d_mo_reach_137 ?_
  refine ev_ior (pc := 138) d_mo_reach_138 ?_
  refine ev_istore (L2 := [(0, .ref 55), (1, .int x1), (2, .int x2), (3, .int x3), (4, .int (x4 ||| (((1 : Int32) <<< ((gI X 56 (Int32.toNatClampNeg x6)) &&& 31)) ||| ((1 : Int32) <<< ((gI X 57 (Int32.toNatClampNeg x6)) &&& 31))))), (5, .int x5), (6, .int x6), (7, .int x7)]) (pc := 139) d_mo_reach_139 rfl (Nat.le_of_ble_eq_true rfl) rfl ?_
  refine ev_iinc (v := (x6 + 1)) (L2 := [(0, .ref 55), (1, .int x1), (2, .int x2), (3, .int x3), (4, .int (x4 ||| (((1 : Int32) <<< ((gI X 56 (Int32.toNatClampNeg x6)) &&& 31)) ||| ((1 : Int32) <<< ((gI X 57 (Int32.toNatClampNeg x6)) &&& 31))))), (5, .int x5), (6, .int (x6 + 1)), (7, .int x7)]) (pc := 141) d_mo_reach_141 rfl (by rw [kc_i_1]) rfl (Nat.le_of_ble_eq_true rfl) rfl ?_
  refine ev_goto (pc := 144) (tgt := 24) d_mo_reach_144 (by decide) ?_
  exact ev_sub [(0, .ref 55), (1, .int x1), (2, .int x2), (3, .int x3), (4, .int (x4 ||| (((1 : Int32) <<< ((gI X 56 (Int32.toNatClampNeg x6)) &&& 31)) ||| ((1 : Int32) <<< ((gI X 57 (Int32.toNatClampNeg x6)) &&& 31))))), (5, .int x5), (6, .int (x6 + 1))] (List.forall_mem_cons.mpr ⟨rfl, (List.forall_mem_cons.mpr ⟨rfl, (List.forall_mem_cons.mpr ⟨rfl, (List.forall_mem_cons.mpr ⟨rfl, (List.forall_mem_cons.mpr ⟨rfl, (List.forall_mem_cons.mpr ⟨rfl, (List.forall_mem_cons.mpr ⟨rfl, (fun _ h => nomatch h)⟩)⟩)⟩)⟩)⟩)⟩)⟩) hh.2
theorem b_mo_makeAt_0 {E : gp_E} {S : gp_S} {X : gp_H} {Q : Option Value → gp_H → Prop} {x1 : Int32} (hX : Lay S X)  (hh : Ev E m_mo_makeAt 4 [(0, .ref 55), (1, .int x1), (2, .int 0), (3, .int 0)] [] X (0, 0) Q) : Ev E m_mo_makeAt 0 [(0, .ref 55), (1, .int x1)] [] X (0, 0) Q := by
  refine ev_iconst (v := 0) (pc := 0) d_mo_makeAt_0 kc_i_0 ?_
  refine ev_istore_n (L2 := [(0, .ref 55), (1, .int x1), (2, .int 0)]) (pc := 1) d_mo_makeAt_1 rfl (Nat.le_of_ble_eq_true rfl) rfl ?_
  refine ev_iconst (v := 0) (pc := 2) d_mo_makeAt_2 kc_i_0 ?_
  refine ev_istore_n (L2 := [(0, .ref 55), (1, .int x1), (2, .int 0), (3, .int 0)]) (pc := 3) d_mo_makeAt_3 rfl (Nat.le_of_ble_eq_true rfl) rfl ?_
  exact hh
theorem b_mo_makeAt_4 {E : gp_E} {S : gp_S} {X : gp_H} {Q : Option Value → gp_H → Prop} {x1 : Int32} {x2 : Int32} {x3 : Int32} (hX : Lay S X)  (hh : (((gI X 55 6) ≤ x3 → Q (some (.int x2)) X) ∧ (¬ (gI X 55 6) ≤ x3 → (vp_in x3 5 ∧ (((gI X 63 (Int32.toNatClampNeg x3)) = 0 → Ev E m_mo_makeAt 44 [(0, .ref 55), (1, .int x1), (2, .int x2), (3, .int x3)] [.int x2] X (0, 0) Q) ∧ (¬ (gI X 63 (Int32.toNatClampNeg x3)) = 0 → (((gb x1 (gI X 60 (Int32.toNatClampNeg x3))) = false → Ev E m_mo_makeAt 44 [(0, .ref 55), (1, .int x1), (2, .int x2), (3, .int x3)] [.int x2] X (0, 0) Q) ∧ ((gb x1 (gI X 60 (Int32.toNatClampNeg x3))) = true → Ev E m_mo_makeAt 4 [(0, .ref 55), (1, .int x1), (2, .int (x2 + (gI X 61 (Int32.toNatClampNeg x3)))), (3, .int (x3 + 1))] [] X (0, 0) Q)))))))) : Ev E m_mo_makeAt 4 [(0, .ref 55), (1, .int x1), (2, .int x2), (3, .int x3)] [] X (0, 0) Q := by
  refine ev_iload_n (x := x3) (pc := 4) d_mo_makeAt_4 rfl ?_
  refine ev_aload_n (x := 55) (pc := 5) d_mo_makeAt_5 rfl ?_
  refine ev_getJ (v := (gI X 55 6)) (pc := 6) d_mo_makeAt_6 f_mo_219 (ly_at hX 55 rfl) gg_12 rfl rfl ?_
  refine ev_icmp_ge (pc := 9) (tgt := 53) d_mo_makeAt_9 (by decide) (fun c_1 => ?_) (fun c_1 => ?_)
  · have h_2 := hh.1 c_1
    refine ev_iload_n (x := x2) (pc := 53) d_mo_makeAt_53 rfl ?_
    exact ev_iret (pc := 54) ⟨Nat.le_of_ble_eq_true rfl, Nat.le_of_ble_eq_true rfl⟩ d_mo_makeAt_54 rfl (vp_nar_int _) h_2
  · have h_3 := hh.2 c_1
    refine ev_iload_n (x := x2) (pc := 12) d_mo_makeAt_12 rfl ?_
    refine ev_aload_n (x := 55) (pc := 13) d_mo_makeAt_13 rfl ?_
    refine ev_getR (pc := 14) d_mo_makeAt_14 f_mo_32 (ly_at hX 55 rfl) gg_12 rfl (ly_rf hX 55 10 rfl) ?_
    refine ev_iload_n (x := x3) (pc := 17) d_mo_makeAt_17 rfl ?_
    refine ev_zaldJ (v := (gI X 63 (Int32.toNatClampNeg x3))) (pc := 18) d_mo_makeAt_18 (ly_at hX 63 rfl) h_3.1 rfl ?_
    refine ev_if_eq (pc := 19) (tgt := 44) d_mo_makeAt_19 (by decide) (fun c_4 => ?_) (fun c_4 => ?_)
    · have h_5 := h_3.2.1 c_4
      exact h_5
    · have h_6 := h_3.2.2 c_4
      refine ev_iload_n (x := x1) (pc := 22) d_mo_makeAt_22 rfl ?_
      refine ev_aload_n (x := 55) (pc := 23) d_mo_makeAt_23 rfl ?_
      refine ev_getR (pc := 24) d_mo_makeAt_24 f_mo_23 (ly_at hX 55 rfl) gg_12 rfl (ly_rf hX 55 7 rfl) ?_
      refine ev_iload_n (x := x3) (pc := 27) d_mo_makeAt_27 rfl ?_
      refine ev_ialdJ (v := (gI X 60 (Int32.toNatClampNeg x3))) (pc := 28) d_mo_makeAt_28 (ly_at hX 60 rfl) h_3.1 rfl ?_
      refine ev_callS (z := m_mo_has) (as := [.int x1, .int (gI X 60 (Int32.toNatClampNeg x3))]) (rest := [.int x2]) (pc := 29) d_mo_makeAt_29 l_mo_222 i_mo_has o_mo_has rfl rfl (Nat.le_of_ble_eq_true rfl) rfl (Nat.le_of_ble_eq_true rfl) ⟨Nat.le_of_ble_eq_true rfl, Nat.le_of_ble_eq_true rfl⟩ (s_mo_has hX x1 (gI X 60 (Int32.toNatClampNeg x3))) (fun r X1 hq => ?_)
      obtain ⟨rfl, rfl⟩ := hq
      show Ev E m_mo_makeAt 32 [(0, .ref 55), (1, .int x1), (2, .int x2), (3, .int x3)] [.int (bz (gb x1 (gI X 60 (Int32.toNatClampNeg x3)))), .int x2] X (0, 0) Q
      refine ev_ifz_eq (pc := 32) (tgt := 44) d_mo_makeAt_32 (by decide) (fun c_7 => ?_) (fun c_7 => ?_)
      · have h_8 := h_6.1 c_7
        exact h_8
      · have h_9 := h_6.2 c_7
        refine ev_aload_n (x := 55) (pc := 35) d_mo_makeAt_35 rfl ?_
        refine ev_getR (pc := 36) d_mo_makeAt_36 f_mo_26 (ly_at hX 55 rfl) gg_12 rfl (ly_rf hX 55 8 rfl) ?_
        refine ev_iload_n (x := x3) (pc := 39) d_mo_makeAt_39 rfl ?_
        refine ev_ialdJ (v := (gI X 61 (Int32.toNatClampNeg x3))) (pc := 40) d_mo_makeAt_40 (ly_at hX 61 rfl) h_3.1 rfl ?_
        refine ev_goto (pc := 41) (tgt := 45) d_mo_makeAt_41 (by decide) ?_
        refine ev_iadd (pc := 45) d_mo_makeAt_45 ?_
        refine ev_istore_n (L2 := [(0, .ref 55), (1, .int x1), (2, .int (x2 + (gI X 61 (Int32.toNatClampNeg x3)))), (3, .int x3)]) (pc := 46) d_mo_makeAt_46 rfl (Nat.le_of_ble_eq_true rfl) rfl ?_
        refine ev_iinc (v := (x3 + 1)) (L2 := [(0, .ref 55), (1, .int x1), (2, .int (x2 + (gI X 61 (Int32.toNatClampNeg x3)))), (3, .int (x3 + 1))]) (pc := 47) d_mo_makeAt_47 rfl (by rw [kc_i_1]) rfl (Nat.le_of_ble_eq_true rfl) rfl ?_
        refine ev_goto (pc := 50) (tgt := 4) d_mo_makeAt_50 (by decide) ?_
        exact h_9
theorem b_mo_makeAt_44 {E : gp_E} {S : gp_S} {X : gp_H} {Q : Option Value → gp_H → Prop} {x1 : Int32} {x2 : Int32} {x3 : Int32} {t0 : Int32} (hX : Lay S X)  (hh : Ev E m_mo_makeAt 4 [(0, .ref 55), (1, .int x1), (2, .int (t0 + 0)), (3, .int (x3 + 1))] [] X (0, 0) Q) : Ev E m_mo_makeAt 44 [(0, .ref 55), (1, .int x1), (2, .int x2), (3, .int x3)] [.int t0] X (0, 0) Q := by
  refine ev_iconst (v := 0) (pc := 44) d_mo_makeAt_44 kc_i_0 ?_
  refine ev_iadd (pc := 45) d_mo_makeAt_45 ?_
  refine ev_istore_n (L2 := [(0, .ref 55), (1, .int x1), (2, .int (t0 + 0)), (3, .int x3)]) (pc := 46) d_mo_makeAt_46 rfl (Nat.le_of_ble_eq_true rfl) rfl ?_
  refine ev_iinc (v := (x3 + 1)) (L2 := [(0, .ref 55), (1, .int x1), (2, .int (t0 + 0)), (3, .int (x3 + 1))]) (pc := 47) d_mo_makeAt_47 rfl (by rw [kc_i_1]) rfl (Nat.le_of_ble_eq_true rfl) rfl ?_
  refine ev_goto (pc := 50) (tgt := 4) d_mo_makeAt_50 (by decide) ?_
  exact hh
theorem b_mo_useAt_0 {E : gp_E} {S : gp_S} {X : gp_H} {Q : Option Value → gp_H → Prop} {x1 : Int32} {x2 : Int32} (hX : Lay S X)  (hh : Ev E m_mo_useAt 5 [(0, .ref 55), (1, .int x1), (2, .int x2), (3, .int 0), (4, .int 0)] [] X (0, 0) Q) : Ev E m_mo_useAt 0 [(0, .ref 55), (1, .int x1), (2, .int x2)] [] X (0, 0) Q := by
  refine ev_iconst (v := 0) (pc := 0) d_mo_useAt_0 kc_i_0 ?_
  refine ev_istore_n (L2 := [(0, .ref 55), (1, .int x1), (2, .int x2), (3, .int 0)]) (pc := 1) d_mo_useAt_1 rfl (Nat.le_of_ble_eq_true rfl) rfl ?_
  refine ev_iconst (v := 0) (pc := 2) d_mo_useAt_2 kc_i_0 ?_
  refine ev_istore (L2 := [(0, .ref 55), (1, .int x1), (2, .int x2), (3, .int 0), (4, .int 0)]) (pc := 3) d_mo_useAt_3 rfl (Nat.le_of_ble_eq_true rfl) rfl ?_
  exact hh
theorem b_mo_useAt_5 {E : gp_E} {S : gp_S} {X : gp_H} {Q : Option Value → gp_H → Prop} {x1 : Int32} {x2 : Int32} {x3 : Int32} {x4 : Int32} (hX : Lay S X)  (hh : (((gI X 55 19) ≤ x4 → Q (some (.int x3)) X) ∧ (¬ (gI X 55 19) ≤ x4 → ((x2 = 0 → (vp_in x4 40 ∧ (((gI X 74 (Int32.toNatClampNeg x4)) = 2 → Ev E m_mo_useAt 52 [(0, .ref 55), (1, .int x1), (2, .int x2), (3, .int x3), (4, .int x4)] [.int 0] X (0, 0) Q) ∧ (¬ (gI X 74 (Int32.toNatClampNeg x4)) = 2 → Ev E m_mo_useAt 52 [(0, .ref 55), (1, .int x1), (2, .int x2), (3, .int x3), (4, .int x4)] [.int 1] X (0, 0) Q)))) ∧ (¬ x2 = 0 → (vp_in x4 40 ∧ ((¬ (gI X 74 (Int32.toNatClampNeg x4)) = 0 → Ev E m_mo_useAt 52 [(0, .ref 55), (1, .int x1), (2, .int x2), (3, .int x3), (4, .int x4)] [.int 0] X (0, 0) Q) ∧ ((gI X 74 (Int32.toNatClampNeg x4)) = 0 → Ev E m_mo_useAt 52 [(0, .ref 55), (1, .int x1), (2, .int x2), (3, .int x3), (4, .int x4)] [.int 1] X (0, 0) Q)))))))) : Ev E m_mo_useAt 5 [(0, .ref 55), (1, .int x1), (2, .int x2), (3, .int x3), (4, .int x4)] [] X (0, 0) Q := by
  refine ev_iload (x := x4) (pc := 5) d_mo_useAt_5 rfl ?_
  refine ev_aload_n (x := 55) (pc := 7) d_mo_useAt_7 rfl ?_
  refine ev_getJ (v := (gI X 55 19)) (pc := 8) d_mo_useAt_8 f_mo_200 (ly_at hX 55 rfl) gg_12 rfl rfl ?_
  refine ev_icmp_ge (pc := 11) (tgt := 93) d_mo_useAt_11 (by decide) (fun c_1 => ?_) (fun c_1 => ?_)
  · have h_2 := hh.1 c_1
    refine ev_iload_n (x := x3) (pc := 93) d_mo_useAt_93 rfl ?_
    exact ev_iret (pc := 94) ⟨Nat.le_of_ble_eq_true rfl, Nat.le_of_ble_eq_true rfl⟩ d_mo_useAt_94 rfl (vp_nar_int _) h_2
  · have h_3 := hh.2 c_1
    refine ev_iload_n (x := x2) (pc := 14) d_mo_useAt_14 rfl ?_
    refine ev_if_eq (pc := 15) (tgt := 36) d_mo_useAt_15 (by decide) (fun c_4 => ?_) (fun c_4 => ?_)
    · have h_5 := h_3.1 c_4
      refine ev_aload_n (x := 55) (pc := 36) d_mo_useAt_36 rfl ?_
      refine ev_getR (pc := 37) d_mo_useAt_37 f_mo_69 (ly_at hX 55 rfl) gg_12 rfl (ly_rf hX 55 24 rfl) ?_
      refine ev_iload (x := x4) (pc := 40) d_mo_useAt_40 rfl ?_
      refine ev_ialdJ (v := (gI X 74 (Int32.toNatClampNeg x4))) (pc := 42) d_mo_useAt_42 (ly_at hX 74 rfl) h_5.1 rfl ?_
      refine ev_iconst (v := 2) (pc := 43) d_mo_useAt_43 kc_i_2 ?_
      refine ev_icmp_eq (pc := 44) (tgt := 51) d_mo_useAt_44 (by decide) (fun c_7 => ?_) (fun c_7 => ?_)
      · have h_8 := h_5.2.1 c_7
        refine ev_iconst (v := 0) (pc := 51) d_mo_useAt_51 kc_i_0 ?_
        exact h_8
      · have h_9 := h_5.2.2 c_7
        refine ev_iconst (v := 1) (pc := 47) d_mo_useAt_47 kc_i_1 ?_
        refine ev_goto (pc := 48) (tgt := 52) d_mo_useAt_48 (by decide) ?_
        exact h_9
    · have h_6 := h_3.2 c_4
      refine ev_aload_n (x := 55) (pc := 18) d_mo_useAt_18 rfl ?_
      refine ev_getR (pc := 19) d_mo_useAt_19 f_mo_69 (ly_at hX 55 rfl) gg_12 rfl (ly_rf hX 55 24 rfl) ?_
      refine ev_iload (x := x4) (pc := 22) d_mo_useAt_22 rfl ?_
      refine ev_ialdJ (v := (gI X 74 (Int32.toNatClampNeg x4))) (pc := 24) d_mo_useAt_24 (ly_at hX 74 rfl) h_6.1 rfl ?_
      refine ev_if_ne (pc := 25) (tgt := 32) d_mo_useAt_25 (by decide) (fun c_10 => ?_) (fun c_10 => ?_)
      · have h_11 := h_6.2.1 c_10
        refine ev_iconst (v := 0) (pc := 32) d_mo_useAt_32 kc_i_0 ?_
        refine ev_goto (pc := 33) (tgt := 52) d_mo_useAt_33 (by decide) ?_
        exact h_11
      · have h_12 := h_6.2.2 c_10
        refine ev_iconst (v := 1) (pc := 28) d_mo_useAt_28 kc_i_1 ?_
        refine ev_goto (pc := 29) (tgt := 52) d_mo_useAt_29 (by decide) ?_
        exact h_12
theorem b_mo_useAt_52 {E : gp_E} {S : gp_S} {X : gp_H} {Q : Option Value → gp_H → Prop} {x1 : Int32} {x2 : Int32} {x3 : Int32} {x4 : Int32} {t0 : Int32} (hX : Lay S X)  (hh : ((t0 = 0 → Ev E m_mo_useAt 84 [(0, .ref 55), (1, .int x1), (2, .int x2), (3, .int x3), (4, .int x4), (5, .int t0)] [.int x3] X (0, 0) Q) ∧ (¬ t0 = 0 → (vp_in x4 40 ∧ (((gb x1 (gI X 70 (Int32.toNatClampNeg x4))) = false → Ev E m_mo_useAt 84 [(0, .ref 55), (1, .int x1), (2, .int x2), (3, .int x3), (4, .int x4), (5, .int t0)] [.int x3] X (0, 0) Q) ∧ ((gb x1 (gI X 70 (Int32.toNatClampNeg x4))) = true → Ev E m_mo_useAt 5 [(0, .ref 55), (1, .int x1), (2, .int x2), (3, .int (x3 + (gI X 71 (Int32.toNatClampNeg x4)))), (4, .int (x4 + 1))] [] X (0, 0) Q)))))) : Ev E m_mo_useAt 52 [(0, .ref 55), (1, .int x1), (2, .int x2), (3, .int x3), (4, .int x4)] [.int t0] X (0, 0) Q := by
  refine ev_istore (L2 := [(0, .ref 55), (1, .int x1), (2, .int x2), (3, .int x3), (4, .int x4), (5, .int t0)]) (pc := 52) d_mo_useAt_52 rfl (Nat.le_of_ble_eq_true rfl) rfl ?_
  refine ev_iload_n (x := x3) (pc := 54) d_mo_useAt_54 rfl ?_
  refine ev_iload (x := t0) (pc := 55) d_mo_useAt_55 rfl ?_
  refine ev_if_eq (pc := 57) (tgt := 84) d_mo_useAt_57 (by decide) (fun c_1 => ?_) (fun c_1 => ?_)
  · have h_2 := hh.1 c_1
    exact h_2
  · have h_3 := hh.2 c_1
    refine ev_iload_n (x := x1) (pc := 60) d_mo_useAt_60 rfl ?_
    refine ev_aload_n (x := 55) (pc := 61) d_mo_useAt_61 rfl ?_
    refine ev_getR (pc := 62) d_mo_useAt_62 f_mo_57 (ly_at hX 55 rfl) gg_12 rfl (ly_rf hX 55 20 rfl) ?_
    refine ev_iload (x := x4) (pc := 65) d_mo_useAt_65 rfl ?_
    refine ev_ialdJ (v := (gI X 70 (Int32.toNatClampNeg x4))) (pc := 67) d_mo_useAt_67 (ly_at hX 70 rfl) h_3.1 rfl ?_
    refine ev_callS (z := m_mo_has) (as := [.int x1, .int (gI X 70 (Int32.toNatClampNeg x4))]) (rest := [.int x3]) (pc := 68) d_mo_useAt_68 l_mo_222 i_mo_has o_mo_has rfl rfl (Nat.le_of_ble_eq_true rfl) rfl (Nat.le_of_ble_eq_true rfl) ⟨Nat.le_of_ble_eq_true rfl, Nat.le_of_ble_eq_true rfl⟩ (s_mo_has hX x1 (gI X 70 (Int32.toNatClampNeg x4))) (fun r X1 hq => ?_)
    obtain ⟨rfl, rfl⟩ := hq
    show Ev E m_mo_useAt 71 [(0, .ref 55), (1, .int x1), (2, .int x2), (3, .int x3), (4, .int x4), (5, .int t0)] [.int (bz (gb x1 (gI X 70 (Int32.toNatClampNeg x4)))), .int x3] X (0, 0) Q
    refine ev_ifz_eq (pc := 71) (tgt := 84) d_mo_useAt_71 (by decide) (fun c_4 => ?_) (fun c_4 => ?_)
    · have h_5 := h_3.2.1 c_4
      exact h_5
    · have h_6 := h_3.2.2 c_4
      refine ev_aload_n (x := 55) (pc := 74) d_mo_useAt_74 rfl ?_
      refine ev_getR (pc := 75) d_mo_useAt_75 f_mo_60 (ly_at hX 55 rfl) gg_12 rfl (ly_rf hX 55 21 rfl) ?_
      refine ev_iload (x := x4) (pc := 78) d_mo_useAt_78 rfl ?_
      refine ev_ialdJ (v := (gI X 71 (Int32.toNatClampNeg x4))) (pc := 80) d_mo_useAt_80 (ly_at hX 71 rfl) h_3.1 rfl ?_
      refine ev_goto (pc := 81) (tgt := 85) d_mo_useAt_81 (by decide) ?_
      refine ev_iadd (pc := 85) d_mo_useAt_85 ?_
      refine ev_istore_n (L2 := [(0, .ref 55), (1, .int x1), (2, .int x2), (3, .int (x3 + (gI X 71 (Int32.toNatClampNeg x4)))), (4, .int x4), (5, .int t0)]) (pc := 86) d_mo_useAt_86 rfl (Nat.le_of_ble_eq_true rfl) rfl ?_
      refine ev_iinc (v := (x4 + 1)) (L2 := [(0, .ref 55), (1, .int x1), (2, .int x2), (3, .int (x3 + (gI X 71 (Int32.toNatClampNeg x4)))), (4, .int (x4 + 1)), (5, .int t0)]) (pc := 87) d_mo_useAt_87 rfl (by rw [kc_i_1]) rfl (Nat.le_of_ble_eq_true rfl) rfl ?_
      refine ev_goto (pc := 90) (tgt := 5) d_mo_useAt_90 (by decide) ?_
      exact ev_sub [(0, .ref 55), (1, .int x1), (2, .int x2), (3, .int (x3 + (gI X 71 (Int32.toNatClampNeg x4)))), (4, .int (x4 + 1))] (List.forall_mem_cons.mpr ⟨rfl, (List.forall_mem_cons.mpr ⟨rfl, (List.forall_mem_cons.mpr ⟨rfl, (List.forall_mem_cons.mpr ⟨rfl, (List.forall_mem_cons.mpr ⟨rfl, (fun _ h => nomatch h)⟩)⟩)⟩)⟩)⟩) h_6
theorem b_mo_useAt_84 {E : gp_E} {S : gp_S} {X : gp_H} {Q : Option Value → gp_H → Prop} {x1 : Int32} {x2 : Int32} {x3 : Int32} {x4 : Int32} {x5 : Int32} {t0 : Int32} (hX : Lay S X)  (hh : Ev E m_mo_useAt 5 [(0, .ref 55), (1, .int x1), (2, .int x2), (3, .int (t0 + 0)), (4, .int (x4 + 1))] [] X (0, 0) Q) : Ev E m_mo_useAt 84 [(0, .ref 55), (1, .int x1), (2, .int x2), (3, .int x3), (4, .int x4), (5, .int x5)] [.int t0] X (0, 0) Q := by
  refine ev_iconst (v := 0) (pc := 84) d_mo_useAt_84 kc_i_0 ?_
  refine ev_iadd (pc := 85) d_mo_useAt_85 ?_
  refine ev_istore_n (L2 := [(0, .ref 55), (1, .int x1), (2, .int x2), (3, .int (t0 + 0)), (4, .int x4), (5, .int x5)]) (pc := 86) d_mo_useAt_86 rfl (Nat.le_of_ble_eq_true rfl) rfl ?_
  refine ev_iinc (v := (x4 + 1)) (L2 := [(0, .ref 55), (1, .int x1), (2, .int x2), (3, .int (t0 + 0)), (4, .int (x4 + 1)), (5, .int x5)]) (pc := 87) d_mo_useAt_87 rfl (by rw [kc_i_1]) rfl (Nat.le_of_ble_eq_true rfl) rfl ?_
  refine ev_goto (pc := 90) (tgt := 5) d_mo_useAt_90 (by decide) ?_
  exact ev_sub [(0, .ref 55), (1, .int x1), (2, .int x2), (3, .int (t0 + 0)), (4, .int (x4 + 1))] (List.forall_mem_cons.mpr ⟨rfl, (List.forall_mem_cons.mpr ⟨rfl, (List.forall_mem_cons.mpr ⟨rfl, (List.forall_mem_cons.mpr ⟨rfl, (List.forall_mem_cons.mpr ⟨rfl, (fun _ h => nomatch h)⟩)⟩)⟩)⟩)⟩) hh
theorem b_mo_terminal_0 {E : gp_E} {S : gp_S} {X : gp_H} {Q : Option Value → gp_H → Prop} {x1 : Int32} (hX : Lay S X)  (hh : (((iw x1 (-1) ((gI X 55 0) - 1)) = true → Q (some (.int (gI X 55 11))) (gp_sI X 55 11 x1)) ∧ ((iw x1 (-1) ((gI X 55 0) - 1)) = false → Q (some (.int (-5))) X))) : Ev E m_mo_terminal 0 [(0, .ref 55), (1, .int x1)] [] X (0, 0) Q := by
  refine ev_iload_n (x := x1) (pc := 0) d_mo_terminal_0 rfl ?_
  refine ev_iconst (v := (-1)) (pc := 1) d_mo_terminal_1 kc_i_m1 ?_
  refine ev_aload_n (x := 55) (pc := 2) d_mo_terminal_2 rfl ?_
  refine ev_getJ (v := (gI X 55 0)) (pc := 3) d_mo_terminal_3 f_mo_193 (ly_at hX 55 rfl) gg_12 rfl rfl ?_
  refine ev_iconst (v := 1) (pc := 6) d_mo_terminal_6 kc_i_1 ?_
  refine ev_isub (pc := 7) d_mo_terminal_7 ?_
  refine ev_callS (z := m_mo_in) (as := [.int x1, .int (-1), .int ((gI X 55 0) - 1)]) (rest := []) (pc := 8) d_mo_terminal_8 l_mo_196 i_mo_in o_mo_in rfl rfl (Nat.le_of_ble_eq_true rfl) rfl (Nat.le_of_ble_eq_true rfl) ⟨Nat.le_of_ble_eq_true rfl, Nat.le_of_ble_eq_true rfl⟩ (s_mo_in hX x1 (-1) ((gI X 55 0) - 1)) (fun r X1 hq => ?_)
  obtain ⟨rfl, rfl⟩ := hq
  show Ev E m_mo_terminal 11 [(0, .ref 55), (1, .int x1)] [.int (bz (iw x1 (-1) ((gI X 55 0) - 1)))] X (0, 0) Q
  refine ev_ifz_ne (pc := 11) (tgt := 17) d_mo_terminal_11 (by decide) (fun c_1 => ?_) (fun c_1 => ?_)
  · have h_2 := hh.1 c_1
    refine ev_aload_n (x := 55) (pc := 17) d_mo_terminal_17 rfl ?_
    refine ev_getJ (v := (gI X 55 11)) (pc := 18) d_mo_terminal_18 f_mo_35 (ly_at hX 55 rfl) gg_12 rfl rfl ?_
    refine ev_istore_n (L2 := [(0, .ref 55), (1, .int x1), (2, .int (gI X 55 11))]) (pc := 21) d_mo_terminal_21 rfl (Nat.le_of_ble_eq_true rfl) rfl ?_
    refine ev_aload_n (x := 55) (pc := 22) d_mo_terminal_22 rfl ?_
    refine ev_iload_n (x := x1) (pc := 23) d_mo_terminal_23 rfl ?_
    refine ev_putI (pc := 24) d_mo_terminal_24 f_mo_35 (ly_at hX 55 rfl) gg_12 rfl (Or.inl rfl) (vp_nar_int _) rfl ?_
    refine ev_iload_n (x := (gI X 55 11)) (pc := 27) d_mo_terminal_27 rfl ?_
    exact ev_iret (pc := 28) ⟨Nat.le_of_ble_eq_true rfl, Nat.le_of_ble_eq_true rfl⟩ d_mo_terminal_28 rfl (vp_nar_int _) h_2
  · have h_3 := hh.2 c_1
    refine ev_bipush (v := (-5)) (pc := 14) d_mo_terminal_14 kc_b_m5 ?_
    exact ev_iret (pc := 16) ⟨Nat.le_of_ble_eq_true rfl, Nat.le_of_ble_eq_true rfl⟩ d_mo_terminal_16 rfl (vp_nar_int _) h_3
theorem b_mo_gas_0 {E : gp_E} {S : gp_S} {X : gp_H} {Q : Option Value → gp_H → Prop} {x1 : Int32} (hX : Lay S X)  (hh : (((iw x1 0 ((gI X 55 0) - 1)) = false → Q (some (.int (-1))) X) ∧ ((iw x1 0 ((gI X 55 0) - 1)) = true → (∃ Qz_4, Ev E m_mo_gasAt 0 [(0, .ref 55), (1, .int x1)] [] X (0, 0) Qz_4 ∧ ∀ r X_7, Qz_4 r X_7 → ∃ v_12 : Int32, r = some (.int v_12) ∧ Lay S X_7 ∧ Q (some (.int v_12)) X_7)))) : Ev E m_mo_gas 0 [(0, .ref 55), (1, .int x1)] [] X (0, 0) Q := by
  refine ev_aload_n (x := 55) (pc := 0) d_mo_gas_0 rfl ?_
  refine ev_iload_n (x := x1) (pc := 1) d_mo_gas_1 rfl ?_
  refine ev_callV (z := m_mo_isKnot) (as := [.int x1]) (rest := []) (pc := 2) d_mo_gas_2 (ly_at hX 55 rfl) lt13_12 rfl l_mo_212 i_mo_isKnot v_mo_isKnot o_mo_isKnot rfl rfl (Nat.le_of_ble_eq_true rfl) rfl (Nat.le_of_ble_eq_true rfl) ⟨Nat.le_of_ble_eq_true rfl, Nat.le_of_ble_eq_true rfl⟩ (s_mo_isKnot hX x1 ) (fun r X1 hq => ?_)
  obtain ⟨rfl, rfl⟩ := hq
  show Ev E m_mo_gas 5 [(0, .ref 55), (1, .int x1)] [.int (bz (iw x1 0 ((gI X 55 0) - 1)))] X (0, 0) Q
  refine ev_ifz_eq (pc := 5) (tgt := 16) d_mo_gas_5 (by decide) (fun c_1 => ?_) (fun c_1 => ?_)
  · have h_2 := hh.1 c_1
    refine ev_iconst (v := (-1)) (pc := 16) d_mo_gas_16 kc_i_m1 ?_
    exact ev_iret (pc := 17) ⟨Nat.le_of_ble_eq_true rfl, Nat.le_of_ble_eq_true rfl⟩ d_mo_gas_17 rfl (vp_nar_int _) h_2
  · have h_3 := hh.2 c_1
    refine ev_aload_n (x := 55) (pc := 8) d_mo_gas_8 rfl ?_
    refine ev_iload_n (x := x1) (pc := 9) d_mo_gas_9 rfl ?_
    obtain ⟨Qz_4, hc_5, hk_6⟩ := h_3
    refine ev_callV (z := m_mo_gasAt) (as := [.int x1]) (rest := []) (pc := 10) d_mo_gas_10 (ly_at hX 55 rfl) lt13_12 rfl l_mo_245 i_mo_gasAt v_mo_gasAt o_mo_gasAt rfl rfl (Nat.le_of_ble_eq_true rfl) rfl (Nat.le_of_ble_eq_true rfl) ⟨Nat.le_of_ble_eq_true rfl, Nat.le_of_ble_eq_true rfl⟩ hc_5 (fun r_8 X_7 hq_9 => ?_)
    obtain ⟨v_12, rfl, hX_11, h_10⟩ := hk_6 _ _ hq_9
    show Ev E m_mo_gas 13 [(0, .ref 55), (1, .int x1)] [.int v_12] X_7 (0, 0) Q
    refine ev_goto (pc := 13) (tgt := 17) d_mo_gas_13 (by decide) ?_
    exact ev_iret (pc := 17) ⟨Nat.le_of_ble_eq_true rfl, Nat.le_of_ble_eq_true rfl⟩ d_mo_gas_17 rfl (vp_nar_int _) h_10
theorem b_mo_gasAt_0 {E : gp_E} {S : gp_S} {X : gp_H} {Q : Option Value → gp_H → Prop} {x1 : Int32} (hX : Lay S X)  (hh : (∃ Qz_1, Ev E m_mo_areaOf 0 [(0, .ref 55), (1, .int x1)] [] X (0, 0) Qz_1 ∧ ∀ r X_4, Qz_1 r X_4 → ∃ v_9 : Int32, r = some (.int v_9) ∧ Lay S X_4 ∧ (∃ Qz_10, Ev E m_mo_makeAt 0 [(0, .ref 55), (1, .int v_9)] [] X_4 (0, 0) Qz_10 ∧ ∀ r X_13, Qz_10 r X_13 → ∃ v_18 : Int32, r = some (.int v_18) ∧ Lay S X_13 ∧ ((v_18 ≤ 0 → Ev E m_mo_gasAt 19 [(0, .ref 55), (1, .int x1), (2, .int v_9)] [.int 0] X_13 (0, 0) Q) ∧ (¬ v_18 ≤ 0 → Ev E m_mo_gasAt 19 [(0, .ref 55), (1, .int x1), (2, .int v_9)] [.int 1] X_13 (0, 0) Q))))) : Ev E m_mo_gasAt 0 [(0, .ref 55), (1, .int x1)] [] X (0, 0) Q := by
  refine ev_aload_n (x := 55) (pc := 0) d_mo_gasAt_0 rfl ?_
  refine ev_iload_n (x := x1) (pc := 1) d_mo_gasAt_1 rfl ?_
  obtain ⟨Qz_1, hc_2, hk_3⟩ := hh
  refine ev_callV (z := m_mo_areaOf) (as := [.int x1]) (rest := []) (pc := 2) d_mo_gasAt_2 (ly_at hX 55 rfl) lt13_12 rfl l_mo_234 i_mo_areaOf v_mo_areaOf o_mo_areaOf rfl rfl (Nat.le_of_ble_eq_true rfl) rfl (Nat.le_of_ble_eq_true rfl) ⟨Nat.le_of_ble_eq_true rfl, Nat.le_of_ble_eq_true rfl⟩ hc_2 (fun r_5 X_4 hq_6 => ?_)
  obtain ⟨v_9, rfl, hX_8, h_7⟩ := hk_3 _ _ hq_6
  show Ev E m_mo_gasAt 5 [(0, .ref 55), (1, .int x1)] [.int v_9] X_4 (0, 0) Q
  refine ev_istore_n (L2 := [(0, .ref 55), (1, .int x1), (2, .int v_9)]) (pc := 5) d_mo_gasAt_5 rfl (Nat.le_of_ble_eq_true rfl) rfl ?_
  refine ev_aload_n (x := 55) (pc := 6) d_mo_gasAt_6 rfl ?_
  refine ev_iload_n (x := v_9) (pc := 7) d_mo_gasAt_7 rfl ?_
  obtain ⟨Qz_10, hc_11, hk_12⟩ := h_7
  refine ev_callV (z := m_mo_makeAt) (as := [.int v_9]) (rest := []) (pc := 8) d_mo_gasAt_8 (ly_at hX_8 55 rfl) lt13_12 rfl l_mo_238 i_mo_makeAt v_mo_makeAt o_mo_makeAt rfl rfl (Nat.le_of_ble_eq_true rfl) rfl (Nat.le_of_ble_eq_true rfl) ⟨Nat.le_of_ble_eq_true rfl, Nat.le_of_ble_eq_true rfl⟩ hc_11 (fun r_14 X_13 hq_15 => ?_)
  obtain ⟨v_18, rfl, hX_17, h_16⟩ := hk_12 _ _ hq_15
  show Ev E m_mo_gasAt 11 [(0, .ref 55), (1, .int x1), (2, .int v_9)] [.int v_18] X_13 (0, 0) Q
  refine ev_if_le (pc := 11) (tgt := 18) d_mo_gasAt_11 (by decide) (fun c_19 => ?_) (fun c_19 => ?_)
  · have h_20 := h_16.1 c_19
    refine ev_iconst (v := 0) (pc := 18) d_mo_gasAt_18 kc_i_0 ?_
    exact h_20
  · have h_21 := h_16.2 c_19
    refine ev_iconst (v := 1) (pc := 14) d_mo_gasAt_14 kc_i_1 ?_
    refine ev_goto (pc := 15) (tgt := 19) d_mo_gasAt_15 (by decide) ?_
    exact h_21
theorem b_mo_gasAt_19 {E : gp_E} {S : gp_S} {X : gp_H} {Q : Option Value → gp_H → Prop} {x1 : Int32} {x2 : Int32} {t0 : Int32} (hX : Lay S X)  (hh : (((gI X 55 11) = (-1) → Q (some (.int (t0 + 0))) X) ∧ (¬ (gI X 55 11) = (-1) → (((gb x2 (gI X 55 11)) = false → Q (some (.int (t0 + 0))) X) ∧ ((gb x2 (gI X 55 11)) = true → Q (some (.int (t0 + 2))) X))))) : Ev E m_mo_gasAt 19 [(0, .ref 55), (1, .int x1), (2, .int x2)] [.int t0] X (0, 0) Q := by
  refine ev_aload_n (x := 55) (pc := 19) d_mo_gasAt_19 rfl ?_
  refine ev_getJ (v := (gI X 55 11)) (pc := 20) d_mo_gasAt_20 f_mo_35 (ly_at hX 55 rfl) gg_12 rfl rfl ?_
  refine ev_iconst (v := (-1)) (pc := 23) d_mo_gasAt_23 kc_i_m1 ?_
  refine ev_icmp_eq (pc := 24) (tgt := 42) d_mo_gasAt_24 (by decide) (fun c_1 => ?_) (fun c_1 => ?_)
  · have h_2 := hh.1 c_1
    refine ev_iconst (v := 0) (pc := 42) d_mo_gasAt_42 kc_i_0 ?_
    refine ev_iadd (pc := 43) d_mo_gasAt_43 ?_
    exact ev_iret (pc := 44) ⟨Nat.le_of_ble_eq_true rfl, Nat.le_of_ble_eq_true rfl⟩ d_mo_gasAt_44 rfl (vp_nar_int _) h_2
  · have h_3 := hh.2 c_1
    refine ev_iload_n (x := x2) (pc := 27) d_mo_gasAt_27 rfl ?_
    refine ev_aload_n (x := 55) (pc := 28) d_mo_gasAt_28 rfl ?_
    refine ev_getJ (v := (gI X 55 11)) (pc := 29) d_mo_gasAt_29 f_mo_35 (ly_at hX 55 rfl) gg_12 rfl rfl ?_
    refine ev_callS (z := m_mo_has) (as := [.int x2, .int (gI X 55 11)]) (rest := [.int t0]) (pc := 32) d_mo_gasAt_32 l_mo_222 i_mo_has o_mo_has rfl rfl (Nat.le_of_ble_eq_true rfl) rfl (Nat.le_of_ble_eq_true rfl) ⟨Nat.le_of_ble_eq_true rfl, Nat.le_of_ble_eq_true rfl⟩ (s_mo_has hX x2 (gI X 55 11)) (fun r X1 hq => ?_)
    obtain ⟨rfl, rfl⟩ := hq
    show Ev E m_mo_gasAt 35 [(0, .ref 55), (1, .int x1), (2, .int x2)] [.int (bz (gb x2 (gI X 55 11))), .int t0] X (0, 0) Q
    refine ev_ifz_eq (pc := 35) (tgt := 42) d_mo_gasAt_35 (by decide) (fun c_4 => ?_) (fun c_4 => ?_)
    · have h_5 := h_3.1 c_4
      refine ev_iconst (v := 0) (pc := 42) d_mo_gasAt_42 kc_i_0 ?_
      refine ev_iadd (pc := 43) d_mo_gasAt_43 ?_
      exact ev_iret (pc := 44) ⟨Nat.le_of_ble_eq_true rfl, Nat.le_of_ble_eq_true rfl⟩ d_mo_gasAt_44 rfl (vp_nar_int _) h_5
    · have h_6 := h_3.2 c_4
      refine ev_iconst (v := 2) (pc := 38) d_mo_gasAt_38 kc_i_2 ?_
      refine ev_goto (pc := 39) (tgt := 43) d_mo_gasAt_39 (by decide) ?_
      refine ev_iadd (pc := 43) d_mo_gasAt_43 ?_
      exact ev_iret (pc := 44) ⟨Nat.le_of_ble_eq_true rfl, Nat.le_of_ble_eq_true rfl⟩ d_mo_gasAt_44 rfl (vp_nar_int _) h_6
theorem b_mo_area_0 {E : gp_E} {S : gp_S} {X : gp_H} {Q : Option Value → gp_H → Prop} {x1 : Int32} (hX : Lay S X)  (hh : (((iw x1 0 ((gI X 55 0) - 1)) = false → Q (some (.int (-1))) X) ∧ ((iw x1 0 ((gI X 55 0) - 1)) = true → (∃ Qz_4, Ev E m_mo_areaOf 0 [(0, .ref 55), (1, .int x1)] [] X (0, 0) Qz_4 ∧ ∀ r X_7, Qz_4 r X_7 → ∃ v_12 : Int32, r = some (.int v_12) ∧ Lay S X_7 ∧ Q (some (.int v_12)) X_7)))) : Ev E m_mo_area 0 [(0, .ref 55), (1, .int x1)] [] X (0, 0) Q := by
  refine ev_aload_n (x := 55) (pc := 0) d_mo_area_0 rfl ?_
  refine ev_iload_n (x := x1) (pc := 1) d_mo_area_1 rfl ?_
  refine ev_callV (z := m_mo_isKnot) (as := [.int x1]) (rest := []) (pc := 2) d_mo_area_2 (ly_at hX 55 rfl) lt13_12 rfl l_mo_212 i_mo_isKnot v_mo_isKnot o_mo_isKnot rfl rfl (Nat.le_of_ble_eq_true rfl) rfl (Nat.le_of_ble_eq_true rfl) ⟨Nat.le_of_ble_eq_true rfl, Nat.le_of_ble_eq_true rfl⟩ (s_mo_isKnot hX x1 ) (fun r X1 hq => ?_)
  obtain ⟨rfl, rfl⟩ := hq
  show Ev E m_mo_area 5 [(0, .ref 55), (1, .int x1)] [.int (bz (iw x1 0 ((gI X 55 0) - 1)))] X (0, 0) Q
  refine ev_ifz_eq (pc := 5) (tgt := 16) d_mo_area_5 (by decide) (fun c_1 => ?_) (fun c_1 => ?_)
  · have h_2 := hh.1 c_1
    refine ev_iconst (v := (-1)) (pc := 16) d_mo_area_16 kc_i_m1 ?_
    exact ev_iret (pc := 17) ⟨Nat.le_of_ble_eq_true rfl, Nat.le_of_ble_eq_true rfl⟩ d_mo_area_17 rfl (vp_nar_int _) h_2
  · have h_3 := hh.2 c_1
    refine ev_aload_n (x := 55) (pc := 8) d_mo_area_8 rfl ?_
    refine ev_iload_n (x := x1) (pc := 9) d_mo_area_9 rfl ?_
    obtain ⟨Qz_4, hc_5, hk_6⟩ := h_3
    refine ev_callV (z := m_mo_areaOf) (as := [.int x1]) (rest := []) (pc := 10) d_mo_area_10 (ly_at hX 55 rfl) lt13_12 rfl l_mo_234 i_mo_areaOf v_mo_areaOf o_mo_areaOf rfl rfl (Nat.le_of_ble_eq_true rfl) rfl (Nat.le_of_ble_eq_true rfl) ⟨Nat.le_of_ble_eq_true rfl, Nat.le_of_ble_eq_true rfl⟩ hc_5 (fun r_8 X_7 hq_9 => ?_)
    obtain ⟨v_12, rfl, hX_11, h_10⟩ := hk_6 _ _ hq_9
    show Ev E m_mo_area 13 [(0, .ref 55), (1, .int x1)] [.int v_12] X_7 (0, 0) Q
    refine ev_goto (pc := 13) (tgt := 17) d_mo_area_13 (by decide) ?_
    exact ev_iret (pc := 17) ⟨Nat.le_of_ble_eq_true rfl, Nat.le_of_ble_eq_true rfl⟩ d_mo_area_17 rfl (vp_nar_int _) h_10
theorem b_mo_pressure_0 {E : gp_E} {S : gp_S} {X : gp_H} {Q : Option Value → gp_H → Prop} {x1 : Int32} (hX : Lay S X)  (hh : (((iw x1 0 ((gI X 55 0) - 1)) = true → (∃ Qz_4, Ev E m_mo_gasAt 0 [(0, .ref 55), (1, .int x1)] [] X (0, 0) Qz_4 ∧ ∀ r X_7, Qz_4 r X_7 → ∃ v_12 : Int32, r = some (.int v_12) ∧ Lay S X_7 ∧ ((v_12 = 0 → Ev E m_mo_pressure 26 [(0, .ref 55), (1, .int x1), (2, .int v_12)] [] X_7 (0, 0) Q) ∧ (¬ v_12 = 0 → ((¬ v_12 = 3 → (∃ Qz_19, Ev E m_mo_areaOf 0 [(0, .ref 55), (1, .int x1)] [] X_7 (0, 0) Qz_19 ∧ ∀ r X_22, Qz_19 r X_22 → ∃ v_27 : Int32, r = some (.int v_27) ∧ Lay S X_22 ∧ (∃ Qz_28, Ev E m_mo_useAt 0 [(0, .ref 55), (1, .int v_27), (2, .int 0)] [] X_22 (0, 0) Qz_28 ∧ ∀ r X_31, Qz_28 r X_31 → ∃ v_36 : Int32, r = some (.int v_36) ∧ Lay S X_31 ∧ ((¬ v_36 = 0 → ((¬ v_12 = 1 → Ev E m_mo_pressure 74 [(0, .ref 55), (1, .int x1), (2, .int v_12), (3, .int v_27), (4, .int v_36)] [.int 5000] X_31 (0, 0) Q) ∧ (v_12 = 1 → (∃ Qz_43, Ev E m_mo_makeAt 0 [(0, .ref 55), (1, .int v_27)] [] X_31 (0, 0) Qz_43 ∧ ∀ r X_46, Qz_43 r X_46 → ∃ v_51 : Int32, r = some (.int v_51) ∧ Lay S X_46 ∧ Ev E m_mo_pressure 74 [(0, .ref 55), (1, .int x1), (2, .int v_12), (3, .int v_27), (4, .int v_36)] [.int v_51] X_46 (0, 0) Q)))) ∧ (v_36 = 0 → Q (some (.int 4)) X_31))))) ∧ (v_12 = 3 → Ev E m_mo_pressure 26 [(0, .ref 55), (1, .int x1), (2, .int v_12)] [] X_7 (0, 0) Q)))))) ∧ ((iw x1 0 ((gI X 55 0) - 1)) = false → Q (some (.int (-5))) X))) : Ev E m_mo_pressure 0 [(0, .ref 55), (1, .int x1)] [] X (0, 0) Q := by
  refine ev_aload_n (x := 55) (pc := 0) d_mo_pressure_0 rfl ?_
  refine ev_iload_n (x := x1) (pc := 1) d_mo_pressure_1 rfl ?_
  refine ev_callV (z := m_mo_isKnot) (as := [.int x1]) (rest := []) (pc := 2) d_mo_pressure_2 (ly_at hX 55 rfl) lt13_12 rfl l_mo_212 i_mo_isKnot v_mo_isKnot o_mo_isKnot rfl rfl (Nat.le_of_ble_eq_true rfl) rfl (Nat.le_of_ble_eq_true rfl) ⟨Nat.le_of_ble_eq_true rfl, Nat.le_of_ble_eq_true rfl⟩ (s_mo_isKnot hX x1 ) (fun r X1 hq => ?_)
  obtain ⟨rfl, rfl⟩ := hq
  show Ev E m_mo_pressure 5 [(0, .ref 55), (1, .int x1)] [.int (bz (iw x1 0 ((gI X 55 0) - 1)))] X (0, 0) Q
  refine ev_ifz_ne (pc := 5) (tgt := 11) d_mo_pressure_5 (by decide) (fun c_1 => ?_) (fun c_1 => ?_)
  · have h_2 := hh.1 c_1
    refine ev_aload_n (x := 55) (pc := 11) d_mo_pressure_11 rfl ?_
    refine ev_iload_n (x := x1) (pc := 12) d_mo_pressure_12 rfl ?_
    obtain ⟨Qz_4, hc_5, hk_6⟩ := h_2
    refine ev_callV (z := m_mo_gasAt) (as := [.int x1]) (rest := []) (pc := 13) d_mo_pressure_13 (ly_at hX 55 rfl) lt13_12 rfl l_mo_245 i_mo_gasAt v_mo_gasAt o_mo_gasAt rfl rfl (Nat.le_of_ble_eq_true rfl) rfl (Nat.le_of_ble_eq_true rfl) ⟨Nat.le_of_ble_eq_true rfl, Nat.le_of_ble_eq_true rfl⟩ hc_5 (fun r_8 X_7 hq_9 => ?_)
    obtain ⟨v_12, rfl, hX_11, h_10⟩ := hk_6 _ _ hq_9
    show Ev E m_mo_pressure 16 [(0, .ref 55), (1, .int x1)] [.int v_12] X_7 (0, 0) Q
    refine ev_istore_n (L2 := [(0, .ref 55), (1, .int x1), (2, .int v_12)]) (pc := 16) d_mo_pressure_16 rfl (Nat.le_of_ble_eq_true rfl) rfl ?_
    refine ev_iload_n (x := v_12) (pc := 17) d_mo_pressure_17 rfl ?_
    refine ev_if_eq (pc := 18) (tgt := 26) d_mo_pressure_18 (by decide) (fun c_13 => ?_) (fun c_13 => ?_)
    · have h_14 := h_10.1 c_13
      exact h_14
    · have h_15 := h_10.2 c_13
      refine ev_iload_n (x := v_12) (pc := 21) d_mo_pressure_21 rfl ?_
      refine ev_iconst (v := 3) (pc := 22) d_mo_pressure_22 kc_i_3 ?_
      refine ev_icmp_ne (pc := 23) (tgt := 37) d_mo_pressure_23 (by decide) (fun c_16 => ?_) (fun c_16 => ?_)
      · have h_17 := h_15.1 c_16
        refine ev_aload_n (x := 55) (pc := 37) d_mo_pressure_37 rfl ?_
        refine ev_iload_n (x := x1) (pc := 38) d_mo_pressure_38 rfl ?_
        obtain ⟨Qz_19, hc_20, hk_21⟩ := h_17
        refine ev_callV (z := m_mo_areaOf) (as := [.int x1]) (rest := []) (pc := 39) d_mo_pressure_39 (ly_at hX_11 55 rfl) lt13_12 rfl l_mo_234 i_mo_areaOf v_mo_areaOf o_mo_areaOf rfl rfl (Nat.le_of_ble_eq_true rfl) rfl (Nat.le_of_ble_eq_true rfl) ⟨Nat.le_of_ble_eq_true rfl, Nat.le_of_ble_eq_true rfl⟩ hc_20 (fun r_23 X_22 hq_24 => ?_)
        obtain ⟨v_27, rfl, hX_26, h_25⟩ := hk_21 _ _ hq_24
        show Ev E m_mo_pressure 42 [(0, .ref 55), (1, .int x1), (2, .int v_12)] [.int v_27] X_22 (0, 0) Q
        refine ev_istore_n (L2 := [(0, .ref 55), (1, .int x1), (2, .int v_12), (3, .int v_27)]) (pc := 42) d_mo_pressure_42 rfl (Nat.le_of_ble_eq_true rfl) rfl ?_
        refine ev_aload_n (x := 55) (pc := 43) d_mo_pressure_43 rfl ?_
        refine ev_iload_n (x := v_27) (pc := 44) d_mo_pressure_44 rfl ?_
        refine ev_iconst (v := 0) (pc := 45) d_mo_pressure_45 kc_i_0 ?_
        obtain ⟨Qz_28, hc_29, hk_30⟩ := h_25
        refine ev_callV (z := m_mo_useAt) (as := [.int v_27, .int 0]) (rest := []) (pc := 46) d_mo_pressure_46 (ly_at hX_26 55 rfl) lt13_12 rfl l_mo_241 i_mo_useAt v_mo_useAt o_mo_useAt rfl rfl (Nat.le_of_ble_eq_true rfl) rfl (Nat.le_of_ble_eq_true rfl) ⟨Nat.le_of_ble_eq_true rfl, Nat.le_of_ble_eq_true rfl⟩ hc_29 (fun r_32 X_31 hq_33 => ?_)
        obtain ⟨v_36, rfl, hX_35, h_34⟩ := hk_30 _ _ hq_33
        show Ev E m_mo_pressure 49 [(0, .ref 55), (1, .int x1), (2, .int v_12), (3, .int v_27)] [.int v_36] X_31 (0, 0) Q
        refine ev_istore (L2 := [(0, .ref 55), (1, .int x1), (2, .int v_12), (3, .int v_27), (4, .int v_36)]) (pc := 49) d_mo_pressure_49 rfl (Nat.le_of_ble_eq_true rfl) rfl ?_
        refine ev_iload (x := v_36) (pc := 51) d_mo_pressure_51 rfl ?_
        refine ev_if_ne (pc := 53) (tgt := 58) d_mo_pressure_53 (by decide) (fun c_37 => ?_) (fun c_37 => ?_)
        · have h_38 := h_34.1 c_37
          refine ev_iload_n (x := v_12) (pc := 58) d_mo_pressure_58 rfl ?_
          refine ev_iconst (v := 1) (pc := 59) d_mo_pressure_59 kc_i_1 ?_
          refine ev_icmp_ne (pc := 60) (tgt := 71) d_mo_pressure_60 (by decide) (fun c_40 => ?_) (fun c_40 => ?_)
          · have h_41 := h_38.1 c_40
            refine ev_sipush (v := 5000) (pc := 71) d_mo_pressure_71 kc_s_5000 ?_
            exact h_41
          · have h_42 := h_38.2 c_40
            refine ev_aload_n (x := 55) (pc := 63) d_mo_pressure_63 rfl ?_
            refine ev_iload_n (x := v_27) (pc := 64) d_mo_pressure_64 rfl ?_
            obtain ⟨Qz_43, hc_44, hk_45⟩ := h_42
            refine ev_callV (z := m_mo_makeAt) (as := [.int v_27]) (rest := []) (pc := 65) d_mo_pressure_65 (ly_at hX_35 55 rfl) lt13_12 rfl l_mo_238 i_mo_makeAt v_mo_makeAt o_mo_makeAt rfl rfl (Nat.le_of_ble_eq_true rfl) rfl (Nat.le_of_ble_eq_true rfl) ⟨Nat.le_of_ble_eq_true rfl, Nat.le_of_ble_eq_true rfl⟩ hc_44 (fun r_47 X_46 hq_48 => ?_)
            obtain ⟨v_51, rfl, hX_50, h_49⟩ := hk_45 _ _ hq_48
            show Ev E m_mo_pressure 68 [(0, .ref 55), (1, .int x1), (2, .int v_12), (3, .int v_27), (4, .int v_36)] [.int v_51] X_46 (0, 0) Q
            refine ev_goto (pc := 68) (tgt := 74) d_mo_pressure_68 (by decide) ?_
            exact h_49
        · have h_39 := h_34.2 c_37
          refine ev_iconst (v := 4) (pc := 56) d_mo_pressure_56 kc_i_4 ?_
          exact ev_iret (pc := 57) ⟨Nat.le_of_ble_eq_true rfl, Nat.le_of_ble_eq_true rfl⟩ d_mo_pressure_57 rfl (vp_nar_int _) h_39
      · have h_18 := h_15.2 c_16
        exact h_18
  · have h_3 := hh.2 c_1
    refine ev_bipush (v := (-5)) (pc := 8) d_mo_pressure_8 kc_b_m5 ?_
    exact ev_iret (pc := 10) ⟨Nat.le_of_ble_eq_true rfl, Nat.le_of_ble_eq_true rfl⟩ d_mo_pressure_10 rfl (vp_nar_int _) h_3
theorem b_mo_pressure_26 {E : gp_E} {S : gp_S} {X : gp_H} {Q : Option Value → gp_H → Prop} {x1 : Int32} {x2 : Int32} (hX : Lay S X)  (hh : ((¬ x2 = 0 → Q (some (.int (-2))) X) ∧ (x2 = 0 → Q (some (.int (-1))) X))) : Ev E m_mo_pressure 26 [(0, .ref 55), (1, .int x1), (2, .int x2)] [] X (0, 0) Q := by
  refine ev_iload_n (x := x2) (pc := 26) d_mo_pressure_26 rfl ?_
  refine ev_if_ne (pc := 27) (tgt := 34) d_mo_pressure_27 (by decide) (fun c_1 => ?_) (fun c_1 => ?_)
  · have h_2 := hh.1 c_1
    refine ev_bipush (v := (-2)) (pc := 34) d_mo_pressure_34 kc_b_m2 ?_
    exact ev_iret (pc := 36) ⟨Nat.le_of_ble_eq_true rfl, Nat.le_of_ble_eq_true rfl⟩ d_mo_pressure_36 rfl (vp_nar_int _) h_2
  · have h_3 := hh.2 c_1
    refine ev_iconst (v := (-1)) (pc := 30) d_mo_pressure_30 kc_i_m1 ?_
    refine ev_goto (pc := 31) (tgt := 36) d_mo_pressure_31 (by decide) ?_
    exact ev_iret (pc := 36) ⟨Nat.le_of_ble_eq_true rfl, Nat.le_of_ble_eq_true rfl⟩ d_mo_pressure_36 rfl (vp_nar_int _) h_3
theorem b_mo_pressure_74 {E : gp_E} {S : gp_S} {X : gp_H} {Q : Option Value → gp_H → Prop} {x1 : Int32} {x2 : Int32} {x3 : Int32} {x4 : Int32} {t0 : Int32} (hX : Lay S X)  (hh : (¬ x4 = 0 ∧ Ev E m_mo_pressure 88 [(0, .ref 55), (1, .int x1), (2, .int x2), (3, .int x3), (4, .int x4), (5, .int ((t0 * 100) / x4)), (6, .int 0), (7, .int 0)] [] X (0, 0) Q)) : Ev E m_mo_pressure 74 [(0, .ref 55), (1, .int x1), (2, .int x2), (3, .int x3), (4, .int x4)] [.int t0] X (0, 0) Q := by
  refine ev_bipush (v := 100) (pc := 74) d_mo_pressure_74 kc_b_100 ?_
  refine ev_imul (pc := 76) d_mo_pressure_76 ?_
  refine ev_iload (x := x4) (pc := 77) d_mo_pressure_77 rfl ?_
  refine ev_idiv (pc := 79) d_mo_pressure_79 hh.1 ?_
  refine ev_istore (L2 := [(0, .ref 55), (1, .int x1), (2, .int x2), (3, .int x3), (4, .int x4), (5, .int ((t0 * 100) / x4))]) (pc := 80) d_mo_pressure_80 rfl (Nat.le_of_ble_eq_true rfl) rfl ?_
  refine ev_iconst (v := 0) (pc := 82) d_mo_pressure_82 kc_i_0 ?_
  refine ev_istore (L2 := [(0, .ref 55), (1, .int x1), (2, .int x2), (3, .int x3), (4, .int x4), (5, .int ((t0 * 100) / x4)), (6, .int 0)]) (pc := 83) d_mo_pressure_83 rfl (Nat.le_of_ble_eq_true rfl) rfl ?_
  refine ev_iconst (v := 0) (pc := 85) d_mo_pressure_85 kc_i_0 ?_
  refine ev_istore (L2 := [(0, .ref 55), (1, .int x1), (2, .int x2), (3, .int x3), (4, .int x4), (5, .int ((t0 * 100) / x4)), (6, .int 0), (7, .int 0)]) (pc := 86) d_mo_pressure_86 rfl (Nat.le_of_ble_eq_true rfl) rfl ?_
  exact hh.2
theorem b_mo_pressure_88 {E : gp_E} {S : gp_S} {X : gp_H} {Q : Option Value → gp_H → Prop} {x1 : Int32} {x2 : Int32} {x3 : Int32} {x4 : Int32} {x5 : Int32} {x6 : Int32} {x7 : Int32} (hX : Lay S X)  (hh : ((4 ≤ x7 → Q (some (.int x6)) X) ∧ (¬ 4 ≤ x7 → (vp_in x7 4 ∧ ((x5 < (gI X 64 (Int32.toNatClampNeg x7)) → Ev E m_mo_pressure 88 [(0, .ref 55), (1, .int x1), (2, .int x2), (3, .int x3), (4, .int x4), (5, .int x5), (6, .int (x6 + 0)), (7, .int (x7 + 1))] [] X (0, 0) Q) ∧ (¬ x5 < (gI X 64 (Int32.toNatClampNeg x7)) → Ev E m_mo_pressure 88 [(0, .ref 55), (1, .int x1), (2, .int x2), (3, .int x3), (4, .int x4), (5, .int x5), (6, .int (x6 + 1)), (7, .int (x7 + 1))] [] X (0, 0) Q)))))) : Ev E m_mo_pressure 88 [(0, .ref 55), (1, .int x1), (2, .int x2), (3, .int x3), (4, .int x4), (5, .int x5), (6, .int x6), (7, .int x7)] [] X (0, 0) Q := by
  refine ev_iload (x := x7) (pc := 88) d_mo_pressure_88 rfl ?_
  refine ev_iconst (v := 4) (pc := 90) d_mo_pressure_90 kc_i_4 ?_
  refine ev_icmp_ge (pc := 91) (tgt := 122) d_mo_pressure_91 (by decide) (fun c_1 => ?_) (fun c_1 => ?_)
  · have h_2 := hh.1 c_1
    refine ev_iload (x := x6) (pc := 122) d_mo_pressure_122 rfl ?_
    exact ev_iret (pc := 124) ⟨Nat.le_of_ble_eq_true rfl, Nat.le_of_ble_eq_true rfl⟩ d_mo_pressure_124 rfl (vp_nar_int _) h_2
  · have h_3 := hh.2 c_1
    refine ev_iload (x := x6) (pc := 94) d_mo_pressure_94 rfl ?_
    refine ev_aload_n (x := 55) (pc := 96) d_mo_pressure_96 rfl ?_
    refine ev_getR (pc := 97) d_mo_pressure_97 f_mo_39 (ly_at hX 55 rfl) gg_12 rfl (ly_rf hX 55 12 rfl) ?_
    refine ev_iload (x := x7) (pc := 100) d_mo_pressure_100 rfl ?_
    refine ev_ialdJ (v := (gI X 64 (Int32.toNatClampNeg x7))) (pc := 102) d_mo_pressure_102 (ly_at hX 64 rfl) h_3.1 rfl ?_
    refine ev_iload (x := x5) (pc := 103) d_mo_pressure_103 rfl ?_
    refine ev_icmp_gt (pc := 105) (tgt := 112) d_mo_pressure_105 (by decide) (fun c_4 => ?_) (fun c_4 => ?_)
    · have h_5 := h_3.2.1 c_4
      refine ev_iconst (v := 0) (pc := 112) d_mo_pressure_112 kc_i_0 ?_
      refine ev_iadd (pc := 113) d_mo_pressure_113 ?_
      refine ev_istore (L2 := [(0, .ref 55), (1, .int x1), (2, .int x2), (3, .int x3), (4, .int x4), (5, .int x5), (6, .int (x6 + 0)), (7, .int x7)]) (pc := 114) d_mo_pressure_114 rfl (Nat.le_of_ble_eq_true rfl) rfl ?_
      refine ev_iinc (v := (x7 + 1)) (L2 := [(0, .ref 55), (1, .int x1), (2, .int x2), (3, .int x3), (4, .int x4), (5, .int x5), (6, .int (x6 + 0)), (7, .int (x7 + 1))]) (pc := 116) d_mo_pressure_116 rfl (by rw [kc_i_1]) rfl (Nat.le_of_ble_eq_true rfl) rfl ?_
      refine ev_goto (pc := 119) (tgt := 88) d_mo_pressure_119 (by decide) ?_
      exact h_5
    · have h_6 := h_3.2.2 c_4
      refine ev_iconst (v := 1) (pc := 108) d_mo_pressure_108 kc_i_1 ?_
      refine ev_goto (pc := 109) (tgt := 113) d_mo_pressure_109 (by decide) ?_
      refine ev_iadd (pc := 113) d_mo_pressure_113 ?_
      refine ev_istore (L2 := [(0, .ref 55), (1, .int x1), (2, .int x2), (3, .int x3), (4, .int x4), (5, .int x5), (6, .int (x6 + 1)), (7, .int x7)]) (pc := 114) d_mo_pressure_114 rfl (Nat.le_of_ble_eq_true rfl) rfl ?_
      refine ev_iinc (v := (x7 + 1)) (L2 := [(0, .ref 55), (1, .int x1), (2, .int x2), (3, .int x3), (4, .int x4), (5, .int x5), (6, .int (x6 + 1)), (7, .int (x7 + 1))]) (pc := 116) d_mo_pressure_116 rfl (by rw [kc_i_1]) rfl (Nat.le_of_ble_eq_true rfl) rfl ?_
      refine ev_goto (pc := 119) (tgt := 88) d_mo_pressure_119 (by decide) ?_
      exact h_6
theorem b_mo_step_0 {E : gp_E} {S : gp_S} {X : gp_H} {Q : Option Value → gp_H → Prop} {x1 : Int32} {x2 : Int32} (hX : Lay S X)  (hh : (((iw x1 0 3) = true → (((iw x2 1 9999) = false → Q (some (.int (-2))) X) ∧ ((iw x2 1 9999) = true → ((x1 ≤ 0 → Ev E m_mo_step 38 [(0, .ref 55), (1, .int x1), (2, .int x2)] [] X (0, 0) Q) ∧ (¬ x1 ≤ 0 → (vp_in (x1 - 1) 4 ∧ ((x2 ≤ (gI X 64 (Int32.toNatClampNeg (x1 - 1))) → Q (some (.int (-2))) X) ∧ (¬ x2 ≤ (gI X 64 (Int32.toNatClampNeg (x1 - 1))) → Ev E m_mo_step 38 [(0, .ref 55), (1, .int x1), (2, .int x2)] [] X (0, 0) Q)))))))) ∧ ((iw x1 0 3) = false → Q (some (.int (-1))) X))) : Ev E m_mo_step 0 [(0, .ref 55), (1, .int x1), (2, .int x2)] [] X (0, 0) Q := by
  refine ev_iload_n (x := x1) (pc := 0) d_mo_step_0 rfl ?_
  refine ev_iconst (v := 0) (pc := 1) d_mo_step_1 kc_i_0 ?_
  refine ev_iconst (v := 3) (pc := 2) d_mo_step_2 kc_i_3 ?_
  refine ev_callS (z := m_mo_in) (as := [.int x1, .int 0, .int 3]) (rest := []) (pc := 3) d_mo_step_3 l_mo_196 i_mo_in o_mo_in rfl rfl (Nat.le_of_ble_eq_true rfl) rfl (Nat.le_of_ble_eq_true rfl) ⟨Nat.le_of_ble_eq_true rfl, Nat.le_of_ble_eq_true rfl⟩ (s_mo_in hX x1 0 3) (fun r X1 hq => ?_)
  obtain ⟨rfl, rfl⟩ := hq
  show Ev E m_mo_step 6 [(0, .ref 55), (1, .int x1), (2, .int x2)] [.int (bz (iw x1 0 3))] X (0, 0) Q
  refine ev_ifz_ne (pc := 6) (tgt := 11) d_mo_step_6 (by decide) (fun c_1 => ?_) (fun c_1 => ?_)
  · have h_2 := hh.1 c_1
    refine ev_iload_n (x := x2) (pc := 11) d_mo_step_11 rfl ?_
    refine ev_iconst (v := 1) (pc := 12) d_mo_step_12 kc_i_1 ?_
    refine ev_sipush (v := 9999) (pc := 13) d_mo_step_13 kc_s_9999 ?_
    refine ev_callS (z := m_mo_in) (as := [.int x2, .int 1, .int 9999]) (rest := []) (pc := 16) d_mo_step_16 l_mo_196 i_mo_in o_mo_in rfl rfl (Nat.le_of_ble_eq_true rfl) rfl (Nat.le_of_ble_eq_true rfl) ⟨Nat.le_of_ble_eq_true rfl, Nat.le_of_ble_eq_true rfl⟩ (s_mo_in hX x2 1 9999) (fun r X1 hq => ?_)
    obtain ⟨rfl, rfl⟩ := hq
    show Ev E m_mo_step 19 [(0, .ref 55), (1, .int x1), (2, .int x2)] [.int (bz (iw x2 1 9999))] X (0, 0) Q
    refine ev_ifz_eq (pc := 19) (tgt := 55) d_mo_step_19 (by decide) (fun c_4 => ?_) (fun c_4 => ?_)
    · have h_5 := h_2.1 c_4
      refine ev_bipush (v := (-2)) (pc := 55) d_mo_step_55 kc_b_m2 ?_
      exact ev_iret (pc := 57) ⟨Nat.le_of_ble_eq_true rfl, Nat.le_of_ble_eq_true rfl⟩ d_mo_step_57 rfl (vp_nar_int _) h_5
    · have h_6 := h_2.2 c_4
      refine ev_iload_n (x := x1) (pc := 22) d_mo_step_22 rfl ?_
      refine ev_if_le (pc := 23) (tgt := 38) d_mo_step_23 (by decide) (fun c_7 => ?_) (fun c_7 => ?_)
      · have h_8 := h_6.1 c_7
        exact h_8
      · have h_9 := h_6.2 c_7
        refine ev_iload_n (x := x2) (pc := 26) d_mo_step_26 rfl ?_
        refine ev_aload_n (x := 55) (pc := 27) d_mo_step_27 rfl ?_
        refine ev_getR (pc := 28) d_mo_step_28 f_mo_39 (ly_at hX 55 rfl) gg_12 rfl (ly_rf hX 55 12 rfl) ?_
        refine ev_iload_n (x := x1) (pc := 31) d_mo_step_31 rfl ?_
        refine ev_iconst (v := 1) (pc := 32) d_mo_step_32 kc_i_1 ?_
        refine ev_isub (pc := 33) d_mo_step_33 ?_
        refine ev_ialdJ (v := (gI X 64 (Int32.toNatClampNeg (x1 - 1)))) (pc := 34) d_mo_step_34 (ly_at hX 64 rfl) h_9.1 rfl ?_
        refine ev_icmp_le (pc := 35) (tgt := 55) d_mo_step_35 (by decide) (fun c_10 => ?_) (fun c_10 => ?_)
        · have h_11 := h_9.2.1 c_10
          refine ev_bipush (v := (-2)) (pc := 55) d_mo_step_55 kc_b_m2 ?_
          exact ev_iret (pc := 57) ⟨Nat.le_of_ble_eq_true rfl, Nat.le_of_ble_eq_true rfl⟩ d_mo_step_57 rfl (vp_nar_int _) h_11
        · have h_12 := h_9.2.2 c_10
          exact h_12
  · have h_3 := hh.2 c_1
    refine ev_iconst (v := (-1)) (pc := 9) d_mo_step_9 kc_i_m1 ?_
    exact ev_iret (pc := 10) ⟨Nat.le_of_ble_eq_true rfl, Nat.le_of_ble_eq_true rfl⟩ d_mo_step_10 rfl (vp_nar_int _) h_3
theorem b_mo_step_38 {E : gp_E} {S : gp_S} {X : gp_H} {Q : Option Value → gp_H → Prop} {x1 : Int32} {x2 : Int32} (hX : Lay S X)  (hh : ((3 ≤ x1 → Ev E m_mo_step 58 [(0, .ref 55), (1, .int x1), (2, .int x2)] [] X (0, 0) Q) ∧ (¬ 3 ≤ x1 → (vp_in (x1 + 1) 4 ∧ ((x2 < (gI X 64 (Int32.toNatClampNeg (x1 + 1))) → Ev E m_mo_step 58 [(0, .ref 55), (1, .int x1), (2, .int x2)] [] X (0, 0) Q) ∧ (¬ x2 < (gI X 64 (Int32.toNatClampNeg (x1 + 1))) → Q (some (.int (-2))) X)))))) : Ev E m_mo_step 38 [(0, .ref 55), (1, .int x1), (2, .int x2)] [] X (0, 0) Q := by
  refine ev_iload_n (x := x1) (pc := 38) d_mo_step_38 rfl ?_
  refine ev_iconst (v := 3) (pc := 39) d_mo_step_39 kc_i_3 ?_
  refine ev_icmp_ge (pc := 40) (tgt := 58) d_mo_step_40 (by decide) (fun c_1 => ?_) (fun c_1 => ?_)
  · have h_2 := hh.1 c_1
    exact h_2
  · have h_3 := hh.2 c_1
    refine ev_iload_n (x := x2) (pc := 43) d_mo_step_43 rfl ?_
    refine ev_aload_n (x := 55) (pc := 44) d_mo_step_44 rfl ?_
    refine ev_getR (pc := 45) d_mo_step_45 f_mo_39 (ly_at hX 55 rfl) gg_12 rfl (ly_rf hX 55 12 rfl) ?_
    refine ev_iload_n (x := x1) (pc := 48) d_mo_step_48 rfl ?_
    refine ev_iconst (v := 1) (pc := 49) d_mo_step_49 kc_i_1 ?_
    refine ev_iadd (pc := 50) d_mo_step_50 ?_
    refine ev_ialdJ (v := (gI X 64 (Int32.toNatClampNeg (x1 + 1)))) (pc := 51) d_mo_step_51 (ly_at hX 64 rfl) h_3.1 rfl ?_
    refine ev_icmp_lt (pc := 52) (tgt := 58) d_mo_step_52 (by decide) (fun c_4 => ?_) (fun c_4 => ?_)
    · have h_5 := h_3.2.1 c_4
      exact h_5
    · have h_6 := h_3.2.2 c_4
      refine ev_bipush (v := (-2)) (pc := 55) d_mo_step_55 kc_b_m2 ?_
      exact ev_iret (pc := 57) ⟨Nat.le_of_ble_eq_true rfl, Nat.le_of_ble_eq_true rfl⟩ d_mo_step_57 rfl (vp_nar_int _) h_6
theorem b_mo_step_58 {E : gp_E} {S : gp_S} {X : gp_H} {Q : Option Value → gp_H → Prop} {x1 : Int32} {x2 : Int32} (hX : Lay S X)  (hh : (vp_in x1 4 ∧ Q (some (.int (gI X 64 (Int32.toNatClampNeg x1)))) (gp_sI X 64 (Int32.toNatClampNeg x1) x2))) : Ev E m_mo_step 58 [(0, .ref 55), (1, .int x1), (2, .int x2)] [] X (0, 0) Q := by
  refine ev_aload_n (x := 55) (pc := 58) d_mo_step_58 rfl ?_
  refine ev_getR (pc := 59) d_mo_step_59 f_mo_39 (ly_at hX 55 rfl) gg_12 rfl (ly_rf hX 55 12 rfl) ?_
  refine ev_iload_n (x := x1) (pc := 62) d_mo_step_62 rfl ?_
  refine ev_ialdJ (v := (gI X 64 (Int32.toNatClampNeg x1))) (pc := 63) d_mo_step_63 (ly_at hX 64 rfl) hh.1 rfl ?_
  refine ev_istore_n (L2 := [(0, .ref 55), (1, .int x1), (2, .int x2), (3, .int (gI X 64 (Int32.toNatClampNeg x1)))]) (pc := 64) d_mo_step_64 rfl (Nat.le_of_ble_eq_true rfl) rfl ?_
  refine ev_aload_n (x := 55) (pc := 65) d_mo_step_65 rfl ?_
  refine ev_getR (pc := 66) d_mo_step_66 f_mo_39 (ly_at hX 55 rfl) gg_12 rfl (ly_rf hX 55 12 rfl) ?_
  refine ev_iload_n (x := x1) (pc := 69) d_mo_step_69 rfl ?_
  refine ev_iload_n (x := x2) (pc := 70) d_mo_step_70 rfl ?_
  refine ev_iast (pc := 71) d_mo_step_71 (ly_at hX 64 rfl) hh.1 ?_
  refine ev_iload_n (x := (gI X 64 (Int32.toNatClampNeg x1))) (pc := 72) d_mo_step_72 rfl ?_
  exact ev_iret (pc := 73) ⟨Nat.le_of_ble_eq_true rfl, Nat.le_of_ble_eq_true rfl⟩ d_mo_step_73 rfl (vp_nar_int _) hh.2
theorem b_mo_model_0 {E : gp_E} {S : gp_S} {X : gp_H} {Q : Option Value → gp_H → Prop} {x1 : Int32} {x2 : Int32} {x3 : Int32} {x4 : Int32} {x5 : Int32} (hX : Lay S X)  (hh : (((iw x1 0 3) = false → Q (some (.int (-2))) X) ∧ ((iw x1 0 3) = true → (((iw x2 0 4) = false → Q (some (.int (-2))) X) ∧ ((iw x2 0 4) = true → (((iw x3 1 9) = false → Q (some (.int (-2))) X) ∧ ((iw x3 1 9) = true → (((iw x4 1 8) = false → Q (some (.int (-2))) X) ∧ ((iw x4 1 8) = true → (((iw x5 0 3) = true → ((¬ (gI X 55 13) = 12 → (vp_in (gI X 55 13) 12 ∧ Q (some (.int (((gI X 55 13) + 1) - 1))) (gp_sI (gp_sI (gp_sI (gp_sI (gp_sI (gp_sI X 65 (Int32.toNatClampNeg (gI X 55 13)) x1) 66 (Int32.toNatClampNeg (gI X 55 13)) x2) 67 (Int32.toNatClampNeg (gI X 55 13)) x3) 68 (Int32.toNatClampNeg (gI X 55 13)) x4) 69 (Int32.toNatClampNeg (gI X 55 13)) x5) 55 13 ((gI X 55 13) + 1)))) ∧ ((gI X 55 13) = 12 → Q (some (.int (-4))) X))) ∧ ((iw x5 0 3) = false → Q (some (.int (-2))) X))))))))))) : Ev E m_mo_model 0 [(0, .ref 55), (1, .int x1), (2, .int x2), (3, .int x3), (4, .int x4), (5, .int x5)] [] X (0, 0) Q := by
  refine ev_iload_n (x := x1) (pc := 0) d_mo_model_0 rfl ?_
  refine ev_iconst (v := 0) (pc := 1) d_mo_model_1 kc_i_0 ?_
  refine ev_iconst (v := 3) (pc := 2) d_mo_model_2 kc_i_3 ?_
  refine ev_callS (z := m_mo_in) (as := [.int x1, .int 0, .int 3]) (rest := []) (pc := 3) d_mo_model_3 l_mo_196 i_mo_in o_mo_in rfl rfl (Nat.le_of_ble_eq_true rfl) rfl (Nat.le_of_ble_eq_true rfl) ⟨Nat.le_of_ble_eq_true rfl, Nat.le_of_ble_eq_true rfl⟩ (s_mo_in hX x1 0 3) (fun r X1 hq => ?_)
  obtain ⟨rfl, rfl⟩ := hq
  show Ev E m_mo_model 6 [(0, .ref 55), (1, .int x1), (2, .int x2), (3, .int x3), (4, .int x4), (5, .int x5)] [.int (bz (iw x1 0 3))] X (0, 0) Q
  refine ev_ifz_eq (pc := 6) (tgt := 49) d_mo_model_6 (by decide) (fun c_1 => ?_) (fun c_1 => ?_)
  · have h_2 := hh.1 c_1
    refine ev_bipush (v := (-2)) (pc := 49) d_mo_model_49 kc_b_m2 ?_
    exact ev_iret (pc := 51) ⟨Nat.le_of_ble_eq_true rfl, Nat.le_of_ble_eq_true rfl⟩ d_mo_model_51 rfl (vp_nar_int _) h_2
  · have h_3 := hh.2 c_1
    refine ev_iload_n (x := x2) (pc := 9) d_mo_model_9 rfl ?_
    refine ev_iconst (v := 0) (pc := 10) d_mo_model_10 kc_i_0 ?_
    refine ev_iconst (v := 4) (pc := 11) d_mo_model_11 kc_i_4 ?_
    refine ev_callS (z := m_mo_in) (as := [.int x2, .int 0, .int 4]) (rest := []) (pc := 12) d_mo_model_12 l_mo_196 i_mo_in o_mo_in rfl rfl (Nat.le_of_ble_eq_true rfl) rfl (Nat.le_of_ble_eq_true rfl) ⟨Nat.le_of_ble_eq_true rfl, Nat.le_of_ble_eq_true rfl⟩ (s_mo_in hX x2 0 4) (fun r X1 hq => ?_)
    obtain ⟨rfl, rfl⟩ := hq
    show Ev E m_mo_model 15 [(0, .ref 55), (1, .int x1), (2, .int x2), (3, .int x3), (4, .int x4), (5, .int x5)] [.int (bz (iw x2 0 4))] X (0, 0) Q
    refine ev_ifz_eq (pc := 15) (tgt := 49) d_mo_model_15 (by decide) (fun c_4 => ?_) (fun c_4 => ?_)
    · have h_5 := h_3.1 c_4
      refine ev_bipush (v := (-2)) (pc := 49) d_mo_model_49 kc_b_m2 ?_
      exact ev_iret (pc := 51) ⟨Nat.le_of_ble_eq_true rfl, Nat.le_of_ble_eq_true rfl⟩ d_mo_model_51 rfl (vp_nar_int _) h_5
    · have h_6 := h_3.2 c_4
      refine ev_iload_n (x := x3) (pc := 18) d_mo_model_18 rfl ?_
      refine ev_iconst (v := 1) (pc := 19) d_mo_model_19 kc_i_1 ?_
      refine ev_bipush (v := 9) (pc := 20) d_mo_model_20 kc_b_9 ?_
      refine ev_callS (z := m_mo_in) (as := [.int x3, .int 1, .int 9]) (rest := []) (pc := 22) d_mo_model_22 l_mo_196 i_mo_in o_mo_in rfl rfl (Nat.le_of_ble_eq_true rfl) rfl (Nat.le_of_ble_eq_true rfl) ⟨Nat.le_of_ble_eq_true rfl, Nat.le_of_ble_eq_true rfl⟩ (s_mo_in hX x3 1 9) (fun r X1 hq => ?_)
      obtain ⟨rfl, rfl⟩ := hq
      show Ev E m_mo_model 25 [(0, .ref 55), (1, .int x1), (2, .int x2), (3, .int x3), (4, .int x4), (5, .int x5)] [.int (bz (iw x3 1 9))] X (0, 0) Q
      refine ev_ifz_eq (pc := 25) (tgt := 49) d_mo_model_25 (by decide) (fun c_7 => ?_) (fun c_7 => ?_)
      · have h_8 := h_6.1 c_7
        refine ev_bipush (v := (-2)) (pc := 49) d_mo_model_49 kc_b_m2 ?_
        exact ev_iret (pc := 51) ⟨Nat.le_of_ble_eq_true rfl, Nat.le_of_ble_eq_true rfl⟩ d_mo_model_51 rfl (vp_nar_int _) h_8
      · have h_9 := h_6.2 c_7
        refine ev_iload (x := x4) (pc := 28) d_mo_model_28 rfl ?_
        refine ev_iconst (v := 1) (pc := 30) d_mo_model_30 kc_i_1 ?_
        refine ev_bipush (v := 8) (pc := 31) d_mo_model_31 kc_b_8 ?_
        refine ev_callS (z := m_mo_in) (as := [.int x4, .int 1, .int 8]) (rest := []) (pc := 33) d_mo_model_33 l_mo_196 i_mo_in o_mo_in rfl rfl (Nat.le_of_ble_eq_true rfl) rfl (Nat.le_of_ble_eq_true rfl) ⟨Nat.le_of_ble_eq_true rfl, Nat.le_of_ble_eq_true rfl⟩ (s_mo_in hX x4 1 8) (fun r X1 hq => ?_)
        obtain ⟨rfl, rfl⟩ := hq
        show Ev E m_mo_model 36 [(0, .ref 55), (1, .int x1), (2, .int x2), (3, .int x3), (4, .int x4), (5, .int x5)] [.int (bz (iw x4 1 8))] X (0, 0) Q
        refine ev_ifz_eq (pc := 36) (tgt := 49) d_mo_model_36 (by decide) (fun c_10 => ?_) (fun c_10 => ?_)
        · have h_11 := h_9.1 c_10
          refine ev_bipush (v := (-2)) (pc := 49) d_mo_model_49 kc_b_m2 ?_
          exact ev_iret (pc := 51) ⟨Nat.le_of_ble_eq_true rfl, Nat.le_of_ble_eq_true rfl⟩ d_mo_model_51 rfl (vp_nar_int _) h_11
        · have h_12 := h_9.2 c_10
          refine ev_iload (x := x5) (pc := 39) d_mo_model_39 rfl ?_
          refine ev_iconst (v := 0) (pc := 41) d_mo_model_41 kc_i_0 ?_
          refine ev_iconst (v := 3) (pc := 42) d_mo_model_42 kc_i_3 ?_
          refine ev_callS (z := m_mo_in) (as := [.int x5, .int 0, .int 3]) (rest := []) (pc := 43) d_mo_model_43 l_mo_196 i_mo_in o_mo_in rfl rfl (Nat.le_of_ble_eq_true rfl) rfl (Nat.le_of_ble_eq_true rfl) ⟨Nat.le_of_ble_eq_true rfl, Nat.le_of_ble_eq_true rfl⟩ (s_mo_in hX x5 0 3) (fun r X1 hq => ?_)
          obtain ⟨rfl, rfl⟩ := hq
          show Ev E m_mo_model 46 [(0, .ref 55), (1, .int x1), (2, .int x2), (3, .int x3), (4, .int x4), (5, .int x5)] [.int (bz (iw x5 0 3))] X (0, 0) Q
          refine ev_ifz_ne (pc := 46) (tgt := 52) d_mo_model_46 (by decide) (fun c_13 => ?_) (fun c_13 => ?_)
          · have h_14 := h_12.1 c_13
            refine ev_aload_n (x := 55) (pc := 52) d_mo_model_52 rfl ?_
            refine ev_getJ (v := (gI X 55 13)) (pc := 53) d_mo_model_53 f_mo_203 (ly_at hX 55 rfl) gg_12 rfl rfl ?_
            refine ev_bipush (v := 12) (pc := 56) d_mo_model_56 kc_b_12 ?_
            refine ev_icmp_ne (pc := 58) (tgt := 64) d_mo_model_58 (by decide) (fun c_16 => ?_) (fun c_16 => ?_)
            · have h_17 := h_14.1 c_16
              refine ev_aload_n (x := 55) (pc := 64) d_mo_model_64 rfl ?_
              refine ev_getR (pc := 65) d_mo_model_65 f_mo_42 (ly_at hX 55 rfl) gg_12 rfl (ly_rf hX 55 14 rfl) ?_
              refine ev_aload_n (x := 55) (pc := 68) d_mo_model_68 rfl ?_
              refine ev_getJ (v := (gI X 55 13)) (pc := 69) d_mo_model_69 f_mo_203 (ly_at hX 55 rfl) gg_12 rfl rfl ?_
              refine ev_iload_n (x := x1) (pc := 72) d_mo_model_72 rfl ?_
              refine ev_iast (pc := 73) d_mo_model_73 (ly_at hX 65 rfl) h_17.1 ?_
              refine ev_aload_n (x := 55) (pc := 74) d_mo_model_74 rfl ?_
              refine ev_getR (pc := 75) d_mo_model_75 f_mo_45 (ly_at (ly_sI hX) 55 rfl) gg_12 rfl (ly_rf (ly_sI hX) 55 15 rfl) ?_
              refine ev_aload_n (x := 55) (pc := 78) d_mo_model_78 rfl ?_
              refine ev_getJ (v := (gI X 55 13)) (pc := 79) d_mo_model_79 f_mo_203 (ly_at (ly_sI hX) 55 rfl) gg_12 rfl rfl ?_
              refine ev_iload_n (x := x2) (pc := 82) d_mo_model_82 rfl ?_
              refine ev_iast (pc := 83) d_mo_model_83 (ly_at (ly_sI hX) 66 rfl) h_17.1 ?_
              refine ev_aload_n (x := 55) (pc := 84) d_mo_model_84 rfl ?_
              refine ev_getR (pc := 85) d_mo_model_85 f_mo_48 (ly_at (ly_sI (ly_sI hX)) 55 rfl) gg_12 rfl (ly_rf (ly_sI (ly_sI hX)) 55 16 rfl) ?_
              refine ev_aload_n (x := 55) (pc := 88) d_mo_model_88 rfl ?_
              refine ev_getJ (v := (gI X 55 13)) (pc := 89) d_mo_model_89 f_mo_203 (ly_at (ly_sI (ly_sI hX)) 55 rfl) gg_12 rfl rfl ?_
              refine ev_iload_n (x := x3) (pc := 92) d_mo_model_92 rfl ?_
              refine ev_iast (pc := 93) d_mo_model_93 (ly_at (ly_sI (ly_sI hX)) 67 rfl) h_17.1 ?_
              refine ev_aload_n (x := 55) (pc := 94) d_mo_model_94 rfl ?_
              refine ev_getR (pc := 95) d_mo_model_95 f_mo_51 (ly_at (ly_sI (ly_sI (ly_sI hX))) 55 rfl) gg_12 rfl (ly_rf (ly_sI (ly_sI (ly_sI hX))) 55 17 rfl) ?_
              refine ev_aload_n (x := 55) (pc := 98) d_mo_model_98 rfl ?_
              refine ev_getJ (v := (gI X 55 13)) (pc := 99) d_mo_model_99 f_mo_203 (ly_at (ly_sI (ly_sI (ly_sI hX))) 55 rfl) gg_12 rfl rfl ?_
              refine ev_iload (x := x4) (pc := 102) d_mo_model_102 rfl ?_
              refine ev_iast (pc := 104) d_mo_model_104 (ly_at (ly_sI (ly_sI (ly_sI hX))) 68 rfl) h_17.1 ?_
              refine ev_aload_n (x := 55) (pc := 105) d_mo_model_105 rfl ?_
              refine ev_getR (pc := 106) d_mo_model_106 f_mo_54 (ly_at (ly_sI (ly_sI (ly_sI (ly_sI hX)))) 55 rfl) gg_12 rfl (ly_rf (ly_sI (ly_sI (ly_sI (ly_sI hX)))) 55 18 rfl) ?_
              refine ev_aload_n (x := 55) (pc := 109) d_mo_model_109 rfl ?_
              refine ev_getJ (v := (gI X 55 13)) (pc := 110) d_mo_model_110 f_mo_203 (ly_at (ly_sI (ly_sI (ly_sI (ly_sI hX)))) 55 rfl) gg_12 rfl rfl ?_
              refine ev_iload (x := x5) (pc := 113) d_mo_model_113 rfl ?_
              refine ev_iast (pc := 115) d_mo_model_115 (ly_at (ly_sI (ly_sI (ly_sI (ly_sI hX)))) 69 rfl) h_17.1 ?_
              refine ev_aload_n (x := 55) (pc := 116) d_mo_model_116 rfl ?_
              refine ev_dup (pc := 117) d_mo_model_117 rfl ?_
              refine ev_getJ (v := (gI X 55 13)) (pc := 118) d_mo_model_118 f_mo_203 (ly_at (ly_sI (ly_sI (ly_sI (ly_sI (ly_sI hX))))) 55 rfl) gg_12 rfl rfl ?_
              refine ev_iconst (v := 1) (pc := 121) d_mo_model_121 kc_i_1 ?_
              refine ev_iadd (pc := 122) d_mo_model_122 ?_
              refine ev_putI (pc := 123) d_mo_model_123 f_mo_203 (ly_at (ly_sI (ly_sI (ly_sI (ly_sI (ly_sI hX))))) 55 rfl) gg_12 rfl (Or.inl rfl) (vp_nar_int _) rfl ?_
              refine ev_aload_n (x := 55) (pc := 126) d_mo_model_126 rfl ?_
              refine ev_getJ (v := ((gI X 55 13) + 1)) (pc := 127) d_mo_model_127 f_mo_203 (ly_at (ly_sI (ly_sI (ly_sI (ly_sI (ly_sI (ly_sI hX)))))) 55 rfl) gg_12 rfl rfl ?_
              refine ev_iconst (v := 1) (pc := 130) d_mo_model_130 kc_i_1 ?_
              refine ev_isub (pc := 131) d_mo_model_131 ?_
              exact ev_iret (pc := 132) ⟨Nat.le_of_ble_eq_true rfl, Nat.le_of_ble_eq_true rfl⟩ d_mo_model_132 rfl (vp_nar_int _) h_17.2
            · have h_18 := h_14.2 c_16
              refine ev_bipush (v := (-4)) (pc := 61) d_mo_model_61 kc_b_m4 ?_
              exact ev_iret (pc := 63) ⟨Nat.le_of_ble_eq_true rfl, Nat.le_of_ble_eq_true rfl⟩ d_mo_model_63 rfl (vp_nar_int _) h_18
          · have h_15 := h_12.2 c_13
            refine ev_bipush (v := (-2)) (pc := 49) d_mo_model_49 kc_b_m2 ?_
            exact ev_iret (pc := 51) ⟨Nat.le_of_ble_eq_true rfl, Nat.le_of_ble_eq_true rfl⟩ d_mo_model_51 rfl (vp_nar_int _) h_15
theorem b_mo_home_0 {E : gp_E} {S : gp_S} {X : gp_H} {Q : Option Value → gp_H → Prop} {x1 : Int32} {x2 : Int32} {x3 : Int32} {x4 : Int32} (hX : Lay S X)  (hh : (((iw x1 0 ((gI X 55 0) - 1)) = false → Q (some (.int (-1))) X) ∧ ((iw x1 0 ((gI X 55 0) - 1)) = true → (((iw x4 0 ((gI X 55 13) - 1)) = true → (((iw x2 1 20) = false → Q (some (.int (-2))) X) ∧ ((iw x2 1 20) = true → (((iw x3 0 31) = true → ((¬ (gI X 55 19) = 40 → (vp_in (gI X 55 19) 40 ∧ Q (some (.int (((gI X 55 19) + 1) - 1))) (gp_sI (gp_sI (gp_sI (gp_sI (gp_sI (gp_sI (gp_sI (gp_sI (gp_sI X 70 (Int32.toNatClampNeg (gI X 55 19)) x1) 71 (Int32.toNatClampNeg (gI X 55 19)) x2) 72 (Int32.toNatClampNeg (gI X 55 19)) x3) 73 (Int32.toNatClampNeg (gI X 55 19)) x4) 74 (Int32.toNatClampNeg (gI X 55 19)) 0) 75 (Int32.toNatClampNeg (gI X 55 19)) (-1)) 76 (Int32.toNatClampNeg (gI X 55 19)) (-1)) 77 (Int32.toNatClampNeg (gI X 55 19)) (-1)) 55 19 ((gI X 55 19) + 1)))) ∧ ((gI X 55 19) = 40 → Q (some (.int (-4))) X))) ∧ ((iw x3 0 31) = false → Q (some (.int (-2))) X))))) ∧ ((iw x4 0 ((gI X 55 13) - 1)) = false → Q (some (.int (-1))) X))))) : Ev E m_mo_home 0 [(0, .ref 55), (1, .int x1), (2, .int x2), (3, .int x3), (4, .int x4)] [] X (0, 0) Q := by
  refine ev_aload_n (x := 55) (pc := 0) d_mo_home_0 rfl ?_
  refine ev_iload_n (x := x1) (pc := 1) d_mo_home_1 rfl ?_
  refine ev_callV (z := m_mo_isKnot) (as := [.int x1]) (rest := []) (pc := 2) d_mo_home_2 (ly_at hX 55 rfl) lt13_12 rfl l_mo_212 i_mo_isKnot v_mo_isKnot o_mo_isKnot rfl rfl (Nat.le_of_ble_eq_true rfl) rfl (Nat.le_of_ble_eq_true rfl) ⟨Nat.le_of_ble_eq_true rfl, Nat.le_of_ble_eq_true rfl⟩ (s_mo_isKnot hX x1 ) (fun r X1 hq => ?_)
  obtain ⟨rfl, rfl⟩ := hq
  show Ev E m_mo_home 5 [(0, .ref 55), (1, .int x1), (2, .int x2), (3, .int x3), (4, .int x4)] [.int (bz (iw x1 0 ((gI X 55 0) - 1)))] X (0, 0) Q
  refine ev_ifz_eq (pc := 5) (tgt := 17) d_mo_home_5 (by decide) (fun c_1 => ?_) (fun c_1 => ?_)
  · have h_2 := hh.1 c_1
    refine ev_iconst (v := (-1)) (pc := 17) d_mo_home_17 kc_i_m1 ?_
    exact ev_iret (pc := 18) ⟨Nat.le_of_ble_eq_true rfl, Nat.le_of_ble_eq_true rfl⟩ d_mo_home_18 rfl (vp_nar_int _) h_2
  · have h_3 := hh.2 c_1
    refine ev_aload_n (x := 55) (pc := 8) d_mo_home_8 rfl ?_
    refine ev_iload (x := x4) (pc := 9) d_mo_home_9 rfl ?_
    refine ev_callV (z := m_mo_isModel) (as := [.int x4]) (rest := []) (pc := 11) d_mo_home_11 (ly_at hX 55 rfl) lt13_12 rfl l_mo_248 i_mo_isModel v_mo_isModel o_mo_isModel rfl rfl (Nat.le_of_ble_eq_true rfl) rfl (Nat.le_of_ble_eq_true rfl) ⟨Nat.le_of_ble_eq_true rfl, Nat.le_of_ble_eq_true rfl⟩ (s_mo_isModel hX x4 ) (fun r X1 hq => ?_)
    obtain ⟨rfl, rfl⟩ := hq
    show Ev E m_mo_home 14 [(0, .ref 55), (1, .int x1), (2, .int x2), (3, .int x3), (4, .int x4)] [.int (bz (iw x4 0 ((gI X 55 13) - 1)))] X (0, 0) Q
    refine ev_ifz_ne (pc := 14) (tgt := 19) d_mo_home_14 (by decide) (fun c_4 => ?_) (fun c_4 => ?_)
    · have h_5 := h_3.1 c_4
      refine ev_iload_n (x := x2) (pc := 19) d_mo_home_19 rfl ?_
      refine ev_iconst (v := 1) (pc := 20) d_mo_home_20 kc_i_1 ?_
      refine ev_bipush (v := 20) (pc := 21) d_mo_home_21 kc_b_20 ?_
      refine ev_callS (z := m_mo_in) (as := [.int x2, .int 1, .int 20]) (rest := []) (pc := 23) d_mo_home_23 l_mo_196 i_mo_in o_mo_in rfl rfl (Nat.le_of_ble_eq_true rfl) rfl (Nat.le_of_ble_eq_true rfl) ⟨Nat.le_of_ble_eq_true rfl, Nat.le_of_ble_eq_true rfl⟩ (s_mo_in hX x2 1 20) (fun r X1 hq => ?_)
      obtain ⟨rfl, rfl⟩ := hq
      show Ev E m_mo_home 26 [(0, .ref 55), (1, .int x1), (2, .int x2), (3, .int x3), (4, .int x4)] [.int (bz (iw x2 1 20))] X (0, 0) Q
      refine ev_ifz_eq (pc := 26) (tgt := 39) d_mo_home_26 (by decide) (fun c_7 => ?_) (fun c_7 => ?_)
      · have h_8 := h_5.1 c_7
        refine ev_bipush (v := (-2)) (pc := 39) d_mo_home_39 kc_b_m2 ?_
        exact ev_iret (pc := 41) ⟨Nat.le_of_ble_eq_true rfl, Nat.le_of_ble_eq_true rfl⟩ d_mo_home_41 rfl (vp_nar_int _) h_8
      · have h_9 := h_5.2 c_7
        refine ev_iload_n (x := x3) (pc := 29) d_mo_home_29 rfl ?_
        refine ev_iconst (v := 0) (pc := 30) d_mo_home_30 kc_i_0 ?_
        refine ev_bipush (v := 31) (pc := 31) d_mo_home_31 kc_b_31 ?_
        refine ev_callS (z := m_mo_in) (as := [.int x3, .int 0, .int 31]) (rest := []) (pc := 33) d_mo_home_33 l_mo_196 i_mo_in o_mo_in rfl rfl (Nat.le_of_ble_eq_true rfl) rfl (Nat.le_of_ble_eq_true rfl) ⟨Nat.le_of_ble_eq_true rfl, Nat.le_of_ble_eq_true rfl⟩ (s_mo_in hX x3 0 31) (fun r X1 hq => ?_)
        obtain ⟨rfl, rfl⟩ := hq
        show Ev E m_mo_home 36 [(0, .ref 55), (1, .int x1), (2, .int x2), (3, .int x3), (4, .int x4)] [.int (bz (iw x3 0 31))] X (0, 0) Q
        refine ev_ifz_ne (pc := 36) (tgt := 42) d_mo_home_36 (by decide) (fun c_10 => ?_) (fun c_10 => ?_)
        · have h_11 := h_9.1 c_10
          refine ev_aload_n (x := 55) (pc := 42) d_mo_home_42 rfl ?_
          refine ev_getJ (v := (gI X 55 19)) (pc := 43) d_mo_home_43 f_mo_200 (ly_at hX 55 rfl) gg_12 rfl rfl ?_
          refine ev_bipush (v := 40) (pc := 46) d_mo_home_46 kc_b_40 ?_
          refine ev_icmp_ne (pc := 48) (tgt := 54) d_mo_home_48 (by decide) (fun c_13 => ?_) (fun c_13 => ?_)
          · have h_14 := h_11.1 c_13
            refine ev_aload_n (x := 55) (pc := 54) d_mo_home_54 rfl ?_
            refine ev_getR (pc := 55) d_mo_home_55 f_mo_57 (ly_at hX 55 rfl) gg_12 rfl (ly_rf hX 55 20 rfl) ?_
            refine ev_aload_n (x := 55) (pc := 58) d_mo_home_58 rfl ?_
            refine ev_getJ (v := (gI X 55 19)) (pc := 59) d_mo_home_59 f_mo_200 (ly_at hX 55 rfl) gg_12 rfl rfl ?_
            refine ev_iload_n (x := x1) (pc := 62) d_mo_home_62 rfl ?_
            refine ev_iast (pc := 63) d_mo_home_63 (ly_at hX 70 rfl) h_14.1 ?_
            refine ev_aload_n (x := 55) (pc := 64) d_mo_home_64 rfl ?_
            refine ev_getR (pc := 65) d_mo_home_65 f_mo_60 (ly_at (ly_sI hX) 55 rfl) gg_12 rfl (ly_rf (ly_sI hX) 55 21 rfl) ?_
            refine ev_aload_n (x := 55) (pc := 68) d_mo_home_68 rfl ?_
            refine ev_getJ (v := (gI X 55 19)) (pc := 69) d_mo_home_69 f_mo_200 (ly_at (ly_sI hX) 55 rfl) gg_12 rfl rfl ?_
            refine ev_iload_n (x := x2) (pc := 72) d_mo_home_72 rfl ?_
            refine ev_iast (pc := 73) d_mo_home_73 (ly_at (ly_sI hX) 71 rfl) h_14.1 ?_
            refine ev_aload_n (x := 55) (pc := 74) d_mo_home_74 rfl ?_
            refine ev_getR (pc := 75) d_mo_home_75 f_mo_63 (ly_at (ly_sI (ly_sI hX)) 55 rfl) gg_12 rfl (ly_rf (ly_sI (ly_sI hX)) 55 22 rfl) ?_
            refine ev_aload_n (x := 55) (pc := 78) d_mo_home_78 rfl ?_
            refine ev_getJ (v := (gI X 55 19)) (pc := 79) d_mo_home_79 f_mo_200 (ly_at (ly_sI (ly_sI hX)) 55 rfl) gg_12 rfl rfl ?_
            refine ev_iload_n (x := x3) (pc := 82) d_mo_home_82 rfl ?_
            refine ev_iast (pc := 83) d_mo_home_83 (ly_at (ly_sI (ly_sI hX)) 72 rfl) h_14.1 ?_
            refine ev_aload_n (x := 55) (pc := 84) d_mo_home_84 rfl ?_
            refine ev_getR (pc := 85) d_mo_home_85 f_mo_66 (ly_at (ly_sI (ly_sI (ly_sI hX))) 55 rfl) gg_12 rfl (ly_rf (ly_sI (ly_sI (ly_sI hX))) 55 23 rfl) ?_
            refine ev_aload_n (x := 55) (pc := 88) d_mo_home_88 rfl ?_
            refine ev_getJ (v := (gI X 55 19)) (pc := 89) d_mo_home_89 f_mo_200 (ly_at (ly_sI (ly_sI (ly_sI hX))) 55 rfl) gg_12 rfl rfl ?_
            refine ev_iload (x := x4) (pc := 92) d_mo_home_92 rfl ?_
            refine ev_iast (pc := 94) d_mo_home_94 (ly_at (ly_sI (ly_sI (ly_sI hX))) 73 rfl) h_14.1 ?_
            refine ev_aload_n (x := 55) (pc := 95) d_mo_home_95 rfl ?_
            refine ev_getR (pc := 96) d_mo_home_96 f_mo_69 (ly_at (ly_sI (ly_sI (ly_sI (ly_sI hX)))) 55 rfl) gg_12 rfl (ly_rf (ly_sI (ly_sI (ly_sI (ly_sI hX)))) 55 24 rfl) ?_
            refine ev_aload_n (x := 55) (pc := 99) d_mo_home_99 rfl ?_
            refine ev_getJ (v := (gI X 55 19)) (pc := 100) d_mo_home_100 f_mo_200 (ly_at (ly_sI (ly_sI (ly_sI (ly_sI hX)))) 55 rfl) gg_12 rfl rfl ?_
            refine ev_iconst (v := 0) (pc := 103) d_mo_home_103 kc_i_0 ?_
            refine ev_iast (pc := 104) d_mo_home_104 (ly_at (ly_sI (ly_sI (ly_sI (ly_sI hX)))) 74 rfl) h_14.1 ?_
            refine ev_aload_n (x := 55) (pc := 105) d_mo_home_105 rfl ?_
            refine ev_getR (pc := 106) d_mo_home_106 f_mo_72 (ly_at (ly_sI (ly_sI (ly_sI (ly_sI (ly_sI hX))))) 55 rfl) gg_12 rfl (ly_rf (ly_sI (ly_sI (ly_sI (ly_sI (ly_sI hX))))) 55 25 rfl) ?_
            refine ev_aload_n (x := 55) (pc := 109) d_mo_home_109 rfl ?_
            refine ev_getJ (v := (gI X 55 19)) (pc := 110) d_mo_home_110 f_mo_200 (ly_at (ly_sI (ly_sI (ly_sI (ly_sI (ly_sI hX))))) 55 rfl) gg_12 rfl rfl ?_
            refine ev_iconst (v := (-1)) (pc := 113) d_mo_home_113 kc_i_m1 ?_
            refine ev_iast (pc := 114) d_mo_home_114 (ly_at (ly_sI (ly_sI (ly_sI (ly_sI (ly_sI hX))))) 75 rfl) h_14.1 ?_
            refine ev_aload_n (x := 55) (pc := 115) d_mo_home_115 rfl ?_
            refine ev_getR (pc := 116) d_mo_home_116 f_mo_75 (ly_at (ly_sI (ly_sI (ly_sI (ly_sI (ly_sI (ly_sI hX)))))) 55 rfl) gg_12 rfl (ly_rf (ly_sI (ly_sI (ly_sI (ly_sI (ly_sI (ly_sI hX)))))) 55 26 rfl) ?_
            refine ev_aload_n (x := 55) (pc := 119) d_mo_home_119 rfl ?_
            refine ev_getJ (v := (gI X 55 19)) (pc := 120) d_mo_home_120 f_mo_200 (ly_at (ly_sI (ly_sI (ly_sI (ly_sI (ly_sI (ly_sI hX)))))) 55 rfl) gg_12 rfl rfl ?_
            refine ev_iconst (v := (-1)) (pc := 123) d_mo_home_123 kc_i_m1 ?_
            refine ev_iast (pc := 124) d_mo_home_124 (ly_at (ly_sI (ly_sI (ly_sI (ly_sI (ly_sI (ly_sI hX)))))) 76 rfl) h_14.1 ?_
            refine ev_aload_n (x := 55) (pc := 125) d_mo_home_125 rfl ?_
            refine ev_getR (pc := 126) d_mo_home_126 f_mo_78 (ly_at (ly_sI (ly_sI (ly_sI (ly_sI (ly_sI (ly_sI (ly_sI hX))))))) 55 rfl) gg_12 rfl (ly_rf (ly_sI (ly_sI (ly_sI (ly_sI (ly_sI (ly_sI (ly_sI hX))))))) 55 27 rfl) ?_
            refine ev_aload_n (x := 55) (pc := 129) d_mo_home_129 rfl ?_
            refine ev_getJ (v := (gI X 55 19)) (pc := 130) d_mo_home_130 f_mo_200 (ly_at (ly_sI (ly_sI (ly_sI (ly_sI (ly_sI (ly_sI (ly_sI hX))))))) 55 rfl) gg_12 rfl rfl ?_
            refine ev_iconst (v := (-1)) (pc := 133) d_mo_home_133 kc_i_m1 ?_
            refine ev_iast (pc := 134) d_mo_home_134 (ly_at (ly_sI (ly_sI (ly_sI (ly_sI (ly_sI (ly_sI (ly_sI hX))))))) 77 rfl) h_14.1 ?_
            refine ev_aload_n (x := 55) (pc := 135) d_mo_home_135 rfl ?_
            refine ev_dup (pc := 136) d_mo_home_136 rfl ?_
            refine ev_getJ (v := (gI X 55 19)) (pc := 137) d_mo_home_137 f_mo_200 (ly_at (ly_sI (ly_sI (ly_sI (ly_sI (ly_sI (ly_sI (ly_sI (ly_sI hX)))))))) 55 rfl) gg_12 rfl rfl ?_
            refine ev_iconst (v := 1) (pc := 140) d_mo_home_140 kc_i_1 ?_
            refine ev_iadd (pc := 141) d_mo_home_141 ?_
            refine ev_putI (pc := 142) d_mo_home_142 f_mo_200 (ly_at (ly_sI (ly_sI (ly_sI (ly_sI (ly_sI (ly_sI (ly_sI (ly_sI hX)))))))) 55 rfl) gg_12 rfl (Or.inl rfl) (vp_nar_int _) rfl ?_
            refine ev_aload_n (x := 55) (pc := 145) d_mo_home_145 rfl ?_
            refine ev_getJ (v := ((gI X 55 19) + 1)) (pc := 146) d_mo_home_146 f_mo_200 (ly_at (ly_sI (ly_sI (ly_sI (ly_sI (ly_sI (ly_sI (ly_sI (ly_sI (ly_sI hX))))))))) 55 rfl) gg_12 rfl rfl ?_
            refine ev_iconst (v := 1) (pc := 149) d_mo_home_149 kc_i_1 ?_
            refine ev_isub (pc := 150) d_mo_home_150 ?_
            exact ev_iret (pc := 151) ⟨Nat.le_of_ble_eq_true rfl, Nat.le_of_ble_eq_true rfl⟩ d_mo_home_151 rfl (vp_nar_int _) h_14.2
          · have h_15 := h_11.2 c_13
            refine ev_bipush (v := (-4)) (pc := 51) d_mo_home_51 kc_b_m4 ?_
            exact ev_iret (pc := 53) ⟨Nat.le_of_ble_eq_true rfl, Nat.le_of_ble_eq_true rfl⟩ d_mo_home_53 rfl (vp_nar_int _) h_15
        · have h_12 := h_9.2 c_10
          refine ev_bipush (v := (-2)) (pc := 39) d_mo_home_39 kc_b_m2 ?_
          exact ev_iret (pc := 41) ⟨Nat.le_of_ble_eq_true rfl, Nat.le_of_ble_eq_true rfl⟩ d_mo_home_41 rfl (vp_nar_int _) h_12
    · have h_6 := h_3.2 c_4
      refine ev_iconst (v := (-1)) (pc := 17) d_mo_home_17 kc_i_m1 ?_
      exact ev_iret (pc := 18) ⟨Nat.le_of_ble_eq_true rfl, Nat.le_of_ble_eq_true rfl⟩ d_mo_home_18 rfl (vp_nar_int _) h_6
theorem b_mo_survey_0 {E : gp_E} {S : gp_S} {X : gp_H} {Q : Option Value → gp_H → Prop} {x1 : Int32} {x2 : Int32} (hX : Lay S X)  (hh : (((iw x1 0 ((gI X 55 19) - 1)) = true → ((x2 ≤ 0 → Q (some (.int (-2))) X) ∧ (¬ x2 ≤ 0 → ((x2 < ((1 : Int32) <<< ((gI X 55 13) &&& 31)) → ((¬ (gI X 55 29) = 300 → (vp_in (gI X 55 29) 300 ∧ Q (some (.int ((gI X 55 29) + 1))) (gp_sI (gp_sI (gp_sI X 79 (Int32.toNatClampNeg (gI X 55 29)) x1) 80 (Int32.toNatClampNeg (gI X 55 29)) x2) 55 29 ((gI X 55 29) + 1)))) ∧ ((gI X 55 29) = 300 → Q (some (.int (-4))) X))) ∧ (¬ x2 < ((1 : Int32) <<< ((gI X 55 13) &&& 31)) → Q (some (.int (-2))) X))))) ∧ ((iw x1 0 ((gI X 55 19) - 1)) = false → Q (some (.int (-1))) X))) : Ev E m_mo_survey 0 [(0, .ref 55), (1, .int x1), (2, .int x2)] [] X (0, 0) Q := by
  refine ev_aload_n (x := 55) (pc := 0) d_mo_survey_0 rfl ?_
  refine ev_iload_n (x := x1) (pc := 1) d_mo_survey_1 rfl ?_
  refine ev_callV (z := m_mo_isHome) (as := [.int x1]) (rest := []) (pc := 2) d_mo_survey_2 (ly_at hX 55 rfl) lt13_12 rfl l_mo_251 i_mo_isHome v_mo_isHome o_mo_isHome rfl rfl (Nat.le_of_ble_eq_true rfl) rfl (Nat.le_of_ble_eq_true rfl) ⟨Nat.le_of_ble_eq_true rfl, Nat.le_of_ble_eq_true rfl⟩ (s_mo_isHome hX x1 ) (fun r X1 hq => ?_)
  obtain ⟨rfl, rfl⟩ := hq
  show Ev E m_mo_survey 5 [(0, .ref 55), (1, .int x1), (2, .int x2)] [.int (bz (iw x1 0 ((gI X 55 19) - 1)))] X (0, 0) Q
  refine ev_ifz_ne (pc := 5) (tgt := 10) d_mo_survey_5 (by decide) (fun c_1 => ?_) (fun c_1 => ?_)
  · have h_2 := hh.1 c_1
    refine ev_iload_n (x := x2) (pc := 10) d_mo_survey_10 rfl ?_
    refine ev_if_le (pc := 11) (tgt := 24) d_mo_survey_11 (by decide) (fun c_4 => ?_) (fun c_4 => ?_)
    · have h_5 := h_2.1 c_4
      refine ev_bipush (v := (-2)) (pc := 24) d_mo_survey_24 kc_b_m2 ?_
      exact ev_iret (pc := 26) ⟨Nat.le_of_ble_eq_true rfl, Nat.le_of_ble_eq_true rfl⟩ d_mo_survey_26 rfl (vp_nar_int _) h_5
    · have h_6 := h_2.2 c_4
      refine ev_iload_n (x := x2) (pc := 14) d_mo_survey_14 rfl ?_
      refine ev_iconst (v := 1) (pc := 15) d_mo_survey_15 kc_i_1 ?_
      refine ev_aload_n (x := 55) (pc := 16) d_mo_survey_16 rfl ?_
      refine ev_getJ (v := (gI X 55 13)) (pc := 17) d_mo_survey_17 f_mo_203 (ly_at hX 55 rfl) gg_12 rfl rfl ?_
      refine ev_ishl (pc := 20) d_mo_survey_20 ?_
      refine ev_icmp_lt (pc := 21) (tgt := 27) d_mo_survey_21 (by decide) (fun c_7 => ?_) (fun c_7 => ?_)
      · have h_8 := h_6.1 c_7
        refine ev_aload_n (x := 55) (pc := 27) d_mo_survey_27 rfl ?_
        refine ev_getJ (v := (gI X 55 29)) (pc := 28) d_mo_survey_28 f_mo_254 (ly_at hX 55 rfl) gg_12 rfl rfl ?_
        refine ev_sipush (v := 300) (pc := 31) d_mo_survey_31 kc_s_300 ?_
        refine ev_icmp_ne (pc := 34) (tgt := 40) d_mo_survey_34 (by decide) (fun c_10 => ?_) (fun c_10 => ?_)
        · have h_11 := h_8.1 c_10
          refine ev_aload_n (x := 55) (pc := 40) d_mo_survey_40 rfl ?_
          refine ev_getR (pc := 41) d_mo_survey_41 f_mo_84 (ly_at hX 55 rfl) gg_12 rfl (ly_rf hX 55 30 rfl) ?_
          refine ev_aload_n (x := 55) (pc := 44) d_mo_survey_44 rfl ?_
          refine ev_getJ (v := (gI X 55 29)) (pc := 45) d_mo_survey_45 f_mo_254 (ly_at hX 55 rfl) gg_12 rfl rfl ?_
          refine ev_iload_n (x := x1) (pc := 48) d_mo_survey_48 rfl ?_
          refine ev_iast (pc := 49) d_mo_survey_49 (ly_at hX 79 rfl) h_11.1 ?_
          refine ev_aload_n (x := 55) (pc := 50) d_mo_survey_50 rfl ?_
          refine ev_getR (pc := 51) d_mo_survey_51 f_mo_87 (ly_at (ly_sI hX) 55 rfl) gg_12 rfl (ly_rf (ly_sI hX) 55 31 rfl) ?_
          refine ev_aload_n (x := 55) (pc := 54) d_mo_survey_54 rfl ?_
          refine ev_getJ (v := (gI X 55 29)) (pc := 55) d_mo_survey_55 f_mo_254 (ly_at (ly_sI hX) 55 rfl) gg_12 rfl rfl ?_
          refine ev_iload_n (x := x2) (pc := 58) d_mo_survey_58 rfl ?_
          refine ev_iast (pc := 59) d_mo_survey_59 (ly_at (ly_sI hX) 80 rfl) h_11.1 ?_
          refine ev_aload_n (x := 55) (pc := 60) d_mo_survey_60 rfl ?_
          refine ev_dup (pc := 61) d_mo_survey_61 rfl ?_
          refine ev_getJ (v := (gI X 55 29)) (pc := 62) d_mo_survey_62 f_mo_254 (ly_at (ly_sI (ly_sI hX)) 55 rfl) gg_12 rfl rfl ?_
          refine ev_iconst (v := 1) (pc := 65) d_mo_survey_65 kc_i_1 ?_
          refine ev_iadd (pc := 66) d_mo_survey_66 ?_
          refine ev_putI (pc := 67) d_mo_survey_67 f_mo_254 (ly_at (ly_sI (ly_sI hX)) 55 rfl) gg_12 rfl (Or.inl rfl) (vp_nar_int _) rfl ?_
          refine ev_aload_n (x := 55) (pc := 70) d_mo_survey_70 rfl ?_
          refine ev_getJ (v := ((gI X 55 29) + 1)) (pc := 71) d_mo_survey_71 f_mo_254 (ly_at (ly_sI (ly_sI (ly_sI hX))) 55 rfl) gg_12 rfl rfl ?_
          exact ev_iret (pc := 74) ⟨Nat.le_of_ble_eq_true rfl, Nat.le_of_ble_eq_true rfl⟩ d_mo_survey_74 rfl (vp_nar_int _) h_11.2
        · have h_12 := h_8.2 c_10
          refine ev_bipush (v := (-4)) (pc := 37) d_mo_survey_37 kc_b_m4 ?_
          exact ev_iret (pc := 39) ⟨Nat.le_of_ble_eq_true rfl, Nat.le_of_ble_eq_true rfl⟩ d_mo_survey_39 rfl (vp_nar_int _) h_12
      · have h_9 := h_6.2 c_7
        refine ev_bipush (v := (-2)) (pc := 24) d_mo_survey_24 kc_b_m2 ?_
        exact ev_iret (pc := 26) ⟨Nat.le_of_ble_eq_true rfl, Nat.le_of_ble_eq_true rfl⟩ d_mo_survey_26 rfl (vp_nar_int _) h_9
  · have h_3 := hh.2 c_1
    refine ev_iconst (v := (-1)) (pc := 8) d_mo_survey_8 kc_i_m1 ?_
    exact ev_iret (pc := 9) ⟨Nat.le_of_ble_eq_true rfl, Nat.le_of_ble_eq_true rfl⟩ d_mo_survey_9 rfl (vp_nar_int _) h_3
theorem b_mo_lay_0 {E : gp_E} {S : gp_S} {X : gp_H} {Q : Option Value → gp_H → Prop} {x1 : Int32} {x2 : Int32} {x3 : Int32} {x4 : Int32} (hX : Lay S X)  (hh : (((iw x1 0 ((gI X 55 19) - 1)) = true → (((iw x2 0 2) = false → Q (some (.int (-2))) X) ∧ ((iw x2 0 2) = true → (((iw x3 0 2) = true → (vp_in x2 3 ∧ (((gI X 104 (Int32.toNatClampNeg x2)) = (-1) → Ev E m_mo_lay 52 [(0, .ref 55), (1, .int x1), (2, .int x2), (3, .int x3), (4, .int x4)] [] X (0, 0) Q) ∧ (¬ (gI X 104 (Int32.toNatClampNeg x2)) = (-1) → (((gI X 104 (Int32.toNatClampNeg x2)) = x3 → Ev E m_mo_lay 52 [(0, .ref 55), (1, .int x1), (2, .int x2), (3, .int x3), (4, .int x4)] [] X (0, 0) Q) ∧ (¬ (gI X 104 (Int32.toNatClampNeg x2)) = x3 → Q (some (.int (-13))) X)))))) ∧ ((iw x3 0 2) = false → Q (some (.int (-2))) X))))) ∧ ((iw x1 0 ((gI X 55 19) - 1)) = false → Q (some (.int (-1))) X))) : Ev E m_mo_lay 0 [(0, .ref 55), (1, .int x1), (2, .int x2), (3, .int x3), (4, .int x4)] [] X (0, 0) Q := by
  refine ev_aload_n (x := 55) (pc := 0) d_mo_lay_0 rfl ?_
  refine ev_iload_n (x := x1) (pc := 1) d_mo_lay_1 rfl ?_
  refine ev_callV (z := m_mo_isHome) (as := [.int x1]) (rest := []) (pc := 2) d_mo_lay_2 (ly_at hX 55 rfl) lt13_12 rfl l_mo_251 i_mo_isHome v_mo_isHome o_mo_isHome rfl rfl (Nat.le_of_ble_eq_true rfl) rfl (Nat.le_of_ble_eq_true rfl) ⟨Nat.le_of_ble_eq_true rfl, Nat.le_of_ble_eq_true rfl⟩ (s_mo_isHome hX x1 ) (fun r X1 hq => ?_)
  obtain ⟨rfl, rfl⟩ := hq
  show Ev E m_mo_lay 5 [(0, .ref 55), (1, .int x1), (2, .int x2), (3, .int x3), (4, .int x4)] [.int (bz (iw x1 0 ((gI X 55 19) - 1)))] X (0, 0) Q
  refine ev_ifz_ne (pc := 5) (tgt := 10) d_mo_lay_5 (by decide) (fun c_1 => ?_) (fun c_1 => ?_)
  · have h_2 := hh.1 c_1
    refine ev_iload_n (x := x2) (pc := 10) d_mo_lay_10 rfl ?_
    refine ev_callS (z := m_mo_isSheet) (as := [.int x2]) (rest := []) (pc := 11) d_mo_lay_11 l_mo_257 i_mo_isSheet o_mo_isSheet rfl rfl (Nat.le_of_ble_eq_true rfl) rfl (Nat.le_of_ble_eq_true rfl) ⟨Nat.le_of_ble_eq_true rfl, Nat.le_of_ble_eq_true rfl⟩ (s_mo_isSheet hX x2 ) (fun r X1 hq => ?_)
    obtain ⟨rfl, rfl⟩ := hq
    show Ev E m_mo_lay 14 [(0, .ref 55), (1, .int x1), (2, .int x2), (3, .int x3), (4, .int x4)] [.int (bz (iw x2 0 2))] X (0, 0) Q
    refine ev_ifz_eq (pc := 14) (tgt := 26) d_mo_lay_14 (by decide) (fun c_4 => ?_) (fun c_4 => ?_)
    · have h_5 := h_2.1 c_4
      refine ev_bipush (v := (-2)) (pc := 26) d_mo_lay_26 kc_b_m2 ?_
      exact ev_iret (pc := 28) ⟨Nat.le_of_ble_eq_true rfl, Nat.le_of_ble_eq_true rfl⟩ d_mo_lay_28 rfl (vp_nar_int _) h_5
    · have h_6 := h_2.2 c_4
      refine ev_iload_n (x := x3) (pc := 17) d_mo_lay_17 rfl ?_
      refine ev_iconst (v := 0) (pc := 18) d_mo_lay_18 kc_i_0 ?_
      refine ev_iconst (v := 2) (pc := 19) d_mo_lay_19 kc_i_2 ?_
      refine ev_callS (z := m_mo_in) (as := [.int x3, .int 0, .int 2]) (rest := []) (pc := 20) d_mo_lay_20 l_mo_196 i_mo_in o_mo_in rfl rfl (Nat.le_of_ble_eq_true rfl) rfl (Nat.le_of_ble_eq_true rfl) ⟨Nat.le_of_ble_eq_true rfl, Nat.le_of_ble_eq_true rfl⟩ (s_mo_in hX x3 0 2) (fun r X1 hq => ?_)
      obtain ⟨rfl, rfl⟩ := hq
      show Ev E m_mo_lay 23 [(0, .ref 55), (1, .int x1), (2, .int x2), (3, .int x3), (4, .int x4)] [.int (bz (iw x3 0 2))] X (0, 0) Q
      refine ev_ifz_ne (pc := 23) (tgt := 29) d_mo_lay_23 (by decide) (fun c_7 => ?_) (fun c_7 => ?_)
      · have h_8 := h_6.1 c_7
        refine ev_aload_n (x := 55) (pc := 29) d_mo_lay_29 rfl ?_
        refine ev_getR (pc := 30) d_mo_lay_30 f_mo_162 (ly_at hX 55 rfl) gg_12 rfl (ly_rf hX 55 67 rfl) ?_
        refine ev_iload_n (x := x2) (pc := 33) d_mo_lay_33 rfl ?_
        refine ev_ialdJ (v := (gI X 104 (Int32.toNatClampNeg x2))) (pc := 34) d_mo_lay_34 (ly_at hX 104 rfl) h_8.1 rfl ?_
        refine ev_iconst (v := (-1)) (pc := 35) d_mo_lay_35 kc_i_m1 ?_
        refine ev_icmp_eq (pc := 36) (tgt := 52) d_mo_lay_36 (by decide) (fun c_10 => ?_) (fun c_10 => ?_)
        · have h_11 := h_8.2.1 c_10
          exact h_11
        · have h_12 := h_8.2.2 c_10
          refine ev_aload_n (x := 55) (pc := 39) d_mo_lay_39 rfl ?_
          refine ev_getR (pc := 40) d_mo_lay_40 f_mo_162 (ly_at hX 55 rfl) gg_12 rfl (ly_rf hX 55 67 rfl) ?_
          refine ev_iload_n (x := x2) (pc := 43) d_mo_lay_43 rfl ?_
          refine ev_ialdJ (v := (gI X 104 (Int32.toNatClampNeg x2))) (pc := 44) d_mo_lay_44 (ly_at hX 104 rfl) h_8.1 rfl ?_
          refine ev_iload_n (x := x3) (pc := 45) d_mo_lay_45 rfl ?_
          refine ev_icmp_eq (pc := 46) (tgt := 52) d_mo_lay_46 (by decide) (fun c_13 => ?_) (fun c_13 => ?_)
          · have h_14 := h_12.1 c_13
            exact h_14
          · have h_15 := h_12.2 c_13
            refine ev_bipush (v := (-13)) (pc := 49) d_mo_lay_49 kc_b_m13 ?_
            exact ev_iret (pc := 51) ⟨Nat.le_of_ble_eq_true rfl, Nat.le_of_ble_eq_true rfl⟩ d_mo_lay_51 rfl (vp_nar_int _) h_15
      · have h_9 := h_6.2 c_7
        refine ev_bipush (v := (-2)) (pc := 26) d_mo_lay_26 kc_b_m2 ?_
        exact ev_iret (pc := 28) ⟨Nat.le_of_ble_eq_true rfl, Nat.le_of_ble_eq_true rfl⟩ d_mo_lay_28 rfl (vp_nar_int _) h_9
  · have h_3 := hh.2 c_1
    refine ev_iconst (v := (-1)) (pc := 8) d_mo_lay_8 kc_i_m1 ?_
    exact ev_iret (pc := 9) ⟨Nat.le_of_ble_eq_true rfl, Nat.le_of_ble_eq_true rfl⟩ d_mo_lay_9 rfl (vp_nar_int _) h_3
theorem b_mo_lay_52 {E : gp_E} {S : gp_S} {X : gp_H} {Q : Option Value → gp_H → Prop} {x1 : Int32} {x2 : Int32} {x3 : Int32} {x4 : Int32} (hX : Lay S X)  (hh : (vp_in x2 3 ∧ ((¬ (gI X 104 (Int32.toNatClampNeg x2)) = (-1) → (((iw x4 0 ((gI X 105 (Int32.toNatClampNeg x2)) - 1)) = false → Q (some (.int (-12))) X) ∧ ((iw x4 0 ((gI X 105 (Int32.toNatClampNeg x2)) - 1)) = true → (vp_in ((40 * x2) + x4) 120 ∧ (∃ Qz_7, Ev E m_mo_survey 0 [(0, .ref 55), (1, .int x1), (2, .int (gI X 106 (Int32.toNatClampNeg ((40 * x2) + x4))))] [] X (0, 0) Qz_7 ∧ ∀ r X_10, Qz_7 r X_10 → ∃ v_15 : Int32, r = some (.int v_15) ∧ Lay S X_10 ∧ Q (some (.int v_15)) X_10))))) ∧ ((gI X 104 (Int32.toNatClampNeg x2)) = (-1) → Q (some (.int (-11))) X)))) : Ev E m_mo_lay 52 [(0, .ref 55), (1, .int x1), (2, .int x2), (3, .int x3), (4, .int x4)] [] X (0, 0) Q := by
  refine ev_aload_n (x := 55) (pc := 52) d_mo_lay_52 rfl ?_
  refine ev_getR (pc := 53) d_mo_lay_53 f_mo_162 (ly_at hX 55 rfl) gg_12 rfl (ly_rf hX 55 67 rfl) ?_
  refine ev_iload_n (x := x2) (pc := 56) d_mo_lay_56 rfl ?_
  refine ev_ialdJ (v := (gI X 104 (Int32.toNatClampNeg x2))) (pc := 57) d_mo_lay_57 (ly_at hX 104 rfl) hh.1 rfl ?_
  refine ev_iconst (v := (-1)) (pc := 58) d_mo_lay_58 kc_i_m1 ?_
  refine ev_icmp_ne (pc := 59) (tgt := 65) d_mo_lay_59 (by decide) (fun c_1 => ?_) (fun c_1 => ?_)
  · have h_2 := hh.2.1 c_1
    refine ev_iload (x := x4) (pc := 65) d_mo_lay_65 rfl ?_
    refine ev_iconst (v := 0) (pc := 67) d_mo_lay_67 kc_i_0 ?_
    refine ev_aload_n (x := 55) (pc := 68) d_mo_lay_68 rfl ?_
    refine ev_getR (pc := 69) d_mo_lay_69 f_mo_165 (ly_at hX 55 rfl) gg_12 rfl (ly_rf hX 55 68 rfl) ?_
    refine ev_iload_n (x := x2) (pc := 72) d_mo_lay_72 rfl ?_
    refine ev_ialdJ (v := (gI X 105 (Int32.toNatClampNeg x2))) (pc := 73) d_mo_lay_73 (ly_at hX 105 rfl) hh.1 rfl ?_
    refine ev_iconst (v := 1) (pc := 74) d_mo_lay_74 kc_i_1 ?_
    refine ev_isub (pc := 75) d_mo_lay_75 ?_
    refine ev_callS (z := m_mo_in) (as := [.int x4, .int 0, .int ((gI X 105 (Int32.toNatClampNeg x2)) - 1)]) (rest := []) (pc := 76) d_mo_lay_76 l_mo_196 i_mo_in o_mo_in rfl rfl (Nat.le_of_ble_eq_true rfl) rfl (Nat.le_of_ble_eq_true rfl) ⟨Nat.le_of_ble_eq_true rfl, Nat.le_of_ble_eq_true rfl⟩ (s_mo_in hX x4 0 ((gI X 105 (Int32.toNatClampNeg x2)) - 1)) (fun r X1 hq => ?_)
    obtain ⟨rfl, rfl⟩ := hq
    show Ev E m_mo_lay 79 [(0, .ref 55), (1, .int x1), (2, .int x2), (3, .int x3), (4, .int x4)] [.int (bz (iw x4 0 ((gI X 105 (Int32.toNatClampNeg x2)) - 1)))] X (0, 0) Q
    refine ev_ifz_eq (pc := 79) (tgt := 102) d_mo_lay_79 (by decide) (fun c_4 => ?_) (fun c_4 => ?_)
    · have h_5 := h_2.1 c_4
      refine ev_bipush (v := (-12)) (pc := 102) d_mo_lay_102 kc_b_m12 ?_
      exact ev_iret (pc := 104) ⟨Nat.le_of_ble_eq_true rfl, Nat.le_of_ble_eq_true rfl⟩ d_mo_lay_104 rfl (vp_nar_int _) h_5
    · have h_6 := h_2.2 c_4
      refine ev_aload_n (x := 55) (pc := 82) d_mo_lay_82 rfl ?_
      refine ev_iload_n (x := x1) (pc := 83) d_mo_lay_83 rfl ?_
      refine ev_aload_n (x := 55) (pc := 84) d_mo_lay_84 rfl ?_
      refine ev_getR (pc := 85) d_mo_lay_85 f_mo_168 (ly_at hX 55 rfl) gg_12 rfl (ly_rf hX 55 69 rfl) ?_
      refine ev_bipush (v := 40) (pc := 88) d_mo_lay_88 kc_b_40 ?_
      refine ev_iload_n (x := x2) (pc := 90) d_mo_lay_90 rfl ?_
      refine ev_imul (pc := 91) d_mo_lay_91 ?_
      refine ev_iload (x := x4) (pc := 92) d_mo_lay_92 rfl ?_
      refine ev_iadd (pc := 94) d_mo_lay_94 ?_
      refine ev_ialdJ (v := (gI X 106 (Int32.toNatClampNeg ((40 * x2) + x4)))) (pc := 95) d_mo_lay_95 (ly_at hX 106 rfl) h_6.1 rfl ?_
      obtain ⟨Qz_7, hc_8, hk_9⟩ := h_6.2
      refine ev_callV (z := m_mo_survey) (as := [.int x1, .int (gI X 106 (Int32.toNatClampNeg ((40 * x2) + x4)))]) (rest := []) (pc := 96) d_mo_lay_96 (ly_at hX 55 rfl) lt13_12 rfl l_mo_260 i_mo_survey v_mo_survey o_mo_survey rfl rfl (Nat.le_of_ble_eq_true rfl) rfl (Nat.le_of_ble_eq_true rfl) ⟨Nat.le_of_ble_eq_true rfl, Nat.le_of_ble_eq_true rfl⟩ hc_8 (fun r_11 X_10 hq_12 => ?_)
      obtain ⟨v_15, rfl, hX_14, h_13⟩ := hk_9 _ _ hq_12
      show Ev E m_mo_lay 99 [(0, .ref 55), (1, .int x1), (2, .int x2), (3, .int x3), (4, .int x4)] [.int v_15] X_10 (0, 0) Q
      refine ev_goto (pc := 99) (tgt := 104) d_mo_lay_99 (by decide) ?_
      exact ev_iret (pc := 104) ⟨Nat.le_of_ble_eq_true rfl, Nat.le_of_ble_eq_true rfl⟩ d_mo_lay_104 rfl (vp_nar_int _) h_13
  · have h_3 := hh.2.2 c_1
    refine ev_bipush (v := (-11)) (pc := 62) d_mo_lay_62 kc_b_m11 ?_
    exact ev_iret (pc := 64) ⟨Nat.le_of_ble_eq_true rfl, Nat.le_of_ble_eq_true rfl⟩ d_mo_lay_64 rfl (vp_nar_int _) h_3
theorem b_mo_known_0 {E : gp_E} {S : gp_S} {X : gp_H} {Q : Option Value → gp_H → Prop} {x1 : Int32} {x2 : Int32} (hX : Lay S X)  (hh : (((iw x1 0 ((gI X 55 19) - 1)) = false → Q (some (.int (-5))) X) ∧ ((iw x1 0 ((gI X 55 19) - 1)) = true → ((x2 < 0 → Q (some (.int (-5))) X) ∧ (¬ x2 < 0 → (∃ Qz_7, Ev E m_mo_knownOf 0 [(0, .ref 55), (1, .int x1), (2, .int x2)] [] X (0, 0) Qz_7 ∧ ∀ r X_10, Qz_7 r X_10 → ∃ v_15 : Int32, r = some (.int v_15) ∧ Lay S X_10 ∧ Q (some (.int v_15)) X_10)))))) : Ev E m_mo_known 0 [(0, .ref 55), (1, .int x1), (2, .int x2)] [] X (0, 0) Q := by
  refine ev_aload_n (x := 55) (pc := 0) d_mo_known_0 rfl ?_
  refine ev_iload_n (x := x1) (pc := 1) d_mo_known_1 rfl ?_
  refine ev_callV (z := m_mo_isHome) (as := [.int x1]) (rest := []) (pc := 2) d_mo_known_2 (ly_at hX 55 rfl) lt13_12 rfl l_mo_251 i_mo_isHome v_mo_isHome o_mo_isHome rfl rfl (Nat.le_of_ble_eq_true rfl) rfl (Nat.le_of_ble_eq_true rfl) ⟨Nat.le_of_ble_eq_true rfl, Nat.le_of_ble_eq_true rfl⟩ (s_mo_isHome hX x1 ) (fun r X1 hq => ?_)
  obtain ⟨rfl, rfl⟩ := hq
  show Ev E m_mo_known 5 [(0, .ref 55), (1, .int x1), (2, .int x2)] [.int (bz (iw x1 0 ((gI X 55 19) - 1)))] X (0, 0) Q
  refine ev_ifz_eq (pc := 5) (tgt := 21) d_mo_known_5 (by decide) (fun c_1 => ?_) (fun c_1 => ?_)
  · have h_2 := hh.1 c_1
    refine ev_bipush (v := (-5)) (pc := 21) d_mo_known_21 kc_b_m5 ?_
    exact ev_iret (pc := 23) ⟨Nat.le_of_ble_eq_true rfl, Nat.le_of_ble_eq_true rfl⟩ d_mo_known_23 rfl (vp_nar_int _) h_2
  · have h_3 := hh.2 c_1
    refine ev_iload_n (x := x2) (pc := 8) d_mo_known_8 rfl ?_
    refine ev_if_lt (pc := 9) (tgt := 21) d_mo_known_9 (by decide) (fun c_4 => ?_) (fun c_4 => ?_)
    · have h_5 := h_3.1 c_4
      refine ev_bipush (v := (-5)) (pc := 21) d_mo_known_21 kc_b_m5 ?_
      exact ev_iret (pc := 23) ⟨Nat.le_of_ble_eq_true rfl, Nat.le_of_ble_eq_true rfl⟩ d_mo_known_23 rfl (vp_nar_int _) h_5
    · have h_6 := h_3.2 c_4
      refine ev_aload_n (x := 55) (pc := 12) d_mo_known_12 rfl ?_
      refine ev_iload_n (x := x1) (pc := 13) d_mo_known_13 rfl ?_
      refine ev_iload_n (x := x2) (pc := 14) d_mo_known_14 rfl ?_
      obtain ⟨Qz_7, hc_8, hk_9⟩ := h_6
      refine ev_callV (z := m_mo_knownOf) (as := [.int x1, .int x2]) (rest := []) (pc := 15) d_mo_known_15 (ly_at hX 55 rfl) lt13_12 rfl l_mo_264 i_mo_knownOf v_mo_knownOf o_mo_knownOf rfl rfl (Nat.le_of_ble_eq_true rfl) rfl (Nat.le_of_ble_eq_true rfl) ⟨Nat.le_of_ble_eq_true rfl, Nat.le_of_ble_eq_true rfl⟩ hc_8 (fun r_11 X_10 hq_12 => ?_)
      obtain ⟨v_15, rfl, hX_14, h_13⟩ := hk_9 _ _ hq_12
      show Ev E m_mo_known 18 [(0, .ref 55), (1, .int x1), (2, .int x2)] [.int v_15] X_10 (0, 0) Q
      refine ev_goto (pc := 18) (tgt := 23) d_mo_known_18 (by decide) ?_
      exact ev_iret (pc := 23) ⟨Nat.le_of_ble_eq_true rfl, Nat.le_of_ble_eq_true rfl⟩ d_mo_known_23 rfl (vp_nar_int _) h_13
theorem b_mo_knownOf_0 {E : gp_E} {S : gp_S} {X : gp_H} {Q : Option Value → gp_H → Prop} {x1 : Int32} {x2 : Int32} (hX : Lay S X)  (hh : (((gI X 55 29) ≤ x2 → Ev E m_mo_knownOf 19 [(0, .ref 55), (1, .int x1), (2, .int x2), (3, .int ((gI X 55 29) - 1))] [] X (0, 0) Q) ∧ (¬ (gI X 55 29) ≤ x2 → Ev E m_mo_knownOf 19 [(0, .ref 55), (1, .int x1), (2, .int x2), (3, .int (x2 - 1))] [] X (0, 0) Q))) : Ev E m_mo_knownOf 0 [(0, .ref 55), (1, .int x1), (2, .int x2)] [] X (0, 0) Q := by
  refine ev_iload_n (x := x2) (pc := 0) d_mo_knownOf_0 rfl ?_
  refine ev_aload_n (x := 55) (pc := 1) d_mo_knownOf_1 rfl ?_
  refine ev_getJ (v := (gI X 55 29)) (pc := 2) d_mo_knownOf_2 f_mo_254 (ly_at hX 55 rfl) gg_12 rfl rfl ?_
  refine ev_icmp_ge (pc := 5) (tgt := 12) d_mo_knownOf_5 (by decide) (fun c_1 => ?_) (fun c_1 => ?_)
  · have h_2 := hh.1 c_1
    refine ev_aload_n (x := 55) (pc := 12) d_mo_knownOf_12 rfl ?_
    refine ev_getJ (v := (gI X 55 29)) (pc := 13) d_mo_knownOf_13 f_mo_254 (ly_at hX 55 rfl) gg_12 rfl rfl ?_
    refine ev_iconst (v := 1) (pc := 16) d_mo_knownOf_16 kc_i_1 ?_
    refine ev_isub (pc := 17) d_mo_knownOf_17 ?_
    refine ev_istore_n (L2 := [(0, .ref 55), (1, .int x1), (2, .int x2), (3, .int ((gI X 55 29) - 1))]) (pc := 18) d_mo_knownOf_18 rfl (Nat.le_of_ble_eq_true rfl) rfl ?_
    exact h_2
  · have h_3 := hh.2 c_1
    refine ev_iload_n (x := x2) (pc := 8) d_mo_knownOf_8 rfl ?_
    refine ev_goto (pc := 9) (tgt := 16) d_mo_knownOf_9 (by decide) ?_
    refine ev_iconst (v := 1) (pc := 16) d_mo_knownOf_16 kc_i_1 ?_
    refine ev_isub (pc := 17) d_mo_knownOf_17 ?_
    refine ev_istore_n (L2 := [(0, .ref 55), (1, .int x1), (2, .int x2), (3, .int (x2 - 1))]) (pc := 18) d_mo_knownOf_18 rfl (Nat.le_of_ble_eq_true rfl) rfl ?_
    exact h_3
theorem b_mo_knownOf_19 {E : gp_E} {S : gp_S} {X : gp_H} {Q : Option Value → gp_H → Prop} {x1 : Int32} {x2 : Int32} {x3 : Int32} (hX : Lay S X)  (hh : ((x3 < 0 → Q (some (.int (((1 : Int32) <<< ((gI X 55 13) &&& 31)) - 1))) X) ∧ (¬ x3 < 0 → (vp_in x3 300 ∧ ((¬ (gI X 79 (Int32.toNatClampNeg x3)) = x1 → Ev E m_mo_knownOf 19 [(0, .ref 55), (1, .int x1), (2, .int x2), (3, .int (x3 + (-1)))] [] X (0, 0) Q) ∧ ((gI X 79 (Int32.toNatClampNeg x3)) = x1 → Q (some (.int (gI X 80 (Int32.toNatClampNeg x3)))) X)))))) : Ev E m_mo_knownOf 19 [(0, .ref 55), (1, .int x1), (2, .int x2), (3, .int x3)] [] X (0, 0) Q := by
  refine ev_iload_n (x := x3) (pc := 19) d_mo_knownOf_19 rfl ?_
  refine ev_if_lt (pc := 20) (tgt := 46) d_mo_knownOf_20 (by decide) (fun c_1 => ?_) (fun c_1 => ?_)
  · have h_2 := hh.1 c_1
    refine ev_iconst (v := 1) (pc := 46) d_mo_knownOf_46 kc_i_1 ?_
    refine ev_aload_n (x := 55) (pc := 47) d_mo_knownOf_47 rfl ?_
    refine ev_getJ (v := (gI X 55 13)) (pc := 48) d_mo_knownOf_48 f_mo_203 (ly_at hX 55 rfl) gg_12 rfl rfl ?_
    refine ev_ishl (pc := 51) d_mo_knownOf_51 ?_
    refine ev_iconst (v := 1) (pc := 52) d_mo_knownOf_52 kc_i_1 ?_
    refine ev_isub (pc := 53) d_mo_knownOf_53 ?_
    exact ev_iret (pc := 54) ⟨Nat.le_of_ble_eq_true rfl, Nat.le_of_ble_eq_true rfl⟩ d_mo_knownOf_54 rfl (vp_nar_int _) h_2
  · have h_3 := hh.2 c_1
    refine ev_aload_n (x := 55) (pc := 23) d_mo_knownOf_23 rfl ?_
    refine ev_getR (pc := 24) d_mo_knownOf_24 f_mo_84 (ly_at hX 55 rfl) gg_12 rfl (ly_rf hX 55 30 rfl) ?_
    refine ev_iload_n (x := x3) (pc := 27) d_mo_knownOf_27 rfl ?_
    refine ev_ialdJ (v := (gI X 79 (Int32.toNatClampNeg x3))) (pc := 28) d_mo_knownOf_28 (ly_at hX 79 rfl) h_3.1 rfl ?_
    refine ev_iload_n (x := x1) (pc := 29) d_mo_knownOf_29 rfl ?_
    refine ev_icmp_ne (pc := 30) (tgt := 40) d_mo_knownOf_30 (by decide) (fun c_4 => ?_) (fun c_4 => ?_)
    · have h_5 := h_3.2.1 c_4
      refine ev_iinc (v := (x3 + (-1))) (L2 := [(0, .ref 55), (1, .int x1), (2, .int x2), (3, .int (x3 + (-1)))]) (pc := 40) d_mo_knownOf_40 rfl (by rw [kc_i_m1]) rfl (Nat.le_of_ble_eq_true rfl) rfl ?_
      refine ev_goto (pc := 43) (tgt := 19) d_mo_knownOf_43 (by decide) ?_
      exact h_5
    · have h_6 := h_3.2.2 c_4
      refine ev_aload_n (x := 55) (pc := 33) d_mo_knownOf_33 rfl ?_
      refine ev_getR (pc := 34) d_mo_knownOf_34 f_mo_87 (ly_at hX 55 rfl) gg_12 rfl (ly_rf hX 55 31 rfl) ?_
      refine ev_iload_n (x := x3) (pc := 37) d_mo_knownOf_37 rfl ?_
      refine ev_ialdJ (v := (gI X 80 (Int32.toNatClampNeg x3))) (pc := 38) d_mo_knownOf_38 (ly_at hX 80 rfl) h_3.1 rfl ?_
      exact ev_iret (pc := 39) ⟨Nat.le_of_ble_eq_true rfl, Nat.le_of_ble_eq_true rfl⟩ d_mo_knownOf_39 rfl (vp_nar_int _) h_6
theorem b_mo_need_0 {E : gp_E} {S : gp_S} {X : gp_H} {Q : Option Value → gp_H → Prop} {x1 : Int32} {x2 : Int32} {x3 : Int32} {x4 : Int32} (hX : Lay S X)  (hh : (((iw x1 0 ((gI X 55 37) - 1)) = false → Ev E m_mo_need 35 [(0, .ref 55), (1, .int x1), (2, .int x2), (3, .int x3), (4, .int x4)] [] X (0, 0) Q) ∧ ((iw x1 0 ((gI X 55 37) - 1)) = true → (((iw x2 0 4) = false → Ev E m_mo_need 35 [(0, .ref 55), (1, .int x1), (2, .int x2), (3, .int x3), (4, .int x4)] [] X (0, 0) Q) ∧ ((iw x2 0 4) = true → ((x3 < 0 → Ev E m_mo_need 35 [(0, .ref 55), (1, .int x1), (2, .int x2), (3, .int x3), (4, .int x4)] [] X (0, 0) Q) ∧ (¬ x3 < 0 → (((iw x4 0 1) = false → Ev E m_mo_need 35 [(0, .ref 55), (1, .int x1), (2, .int x2), (3, .int x3), (4, .int x4)] [] X (0, 0) Q) ∧ ((iw x4 0 1) = true → Ev E m_mo_need 36 [(0, .ref 55), (1, .int x1), (2, .int x2), (3, .int x3), (4, .int x4)] [.int 1] X (0, 0) Q))))))))) : Ev E m_mo_need 0 [(0, .ref 55), (1, .int x1), (2, .int x2), (3, .int x3), (4, .int x4)] [] X (0, 0) Q := by
  refine ev_aload_n (x := 55) (pc := 0) d_mo_need_0 rfl ?_
  refine ev_iload_n (x := x1) (pc := 1) d_mo_need_1 rfl ?_
  refine ev_callV (z := m_mo_isSector) (as := [.int x1]) (rest := []) (pc := 2) d_mo_need_2 (ly_at hX 55 rfl) lt13_12 rfl l_mo_267 i_mo_isSector v_mo_isSector o_mo_isSector rfl rfl (Nat.le_of_ble_eq_true rfl) rfl (Nat.le_of_ble_eq_true rfl) ⟨Nat.le_of_ble_eq_true rfl, Nat.le_of_ble_eq_true rfl⟩ (s_mo_isSector hX x1 ) (fun r X1 hq => ?_)
  obtain ⟨rfl, rfl⟩ := hq
  show Ev E m_mo_need 5 [(0, .ref 55), (1, .int x1), (2, .int x2), (3, .int x3), (4, .int x4)] [.int (bz (iw x1 0 ((gI X 55 37) - 1)))] X (0, 0) Q
  refine ev_ifz_eq (pc := 5) (tgt := 35) d_mo_need_5 (by decide) (fun c_1 => ?_) (fun c_1 => ?_)
  · have h_2 := hh.1 c_1
    exact h_2
  · have h_3 := hh.2 c_1
    refine ev_iload_n (x := x2) (pc := 8) d_mo_need_8 rfl ?_
    refine ev_iconst (v := 0) (pc := 9) d_mo_need_9 kc_i_0 ?_
    refine ev_iconst (v := 4) (pc := 10) d_mo_need_10 kc_i_4 ?_
    refine ev_callS (z := m_mo_in) (as := [.int x2, .int 0, .int 4]) (rest := []) (pc := 11) d_mo_need_11 l_mo_196 i_mo_in o_mo_in rfl rfl (Nat.le_of_ble_eq_true rfl) rfl (Nat.le_of_ble_eq_true rfl) ⟨Nat.le_of_ble_eq_true rfl, Nat.le_of_ble_eq_true rfl⟩ (s_mo_in hX x2 0 4) (fun r X1 hq => ?_)
    obtain ⟨rfl, rfl⟩ := hq
    show Ev E m_mo_need 14 [(0, .ref 55), (1, .int x1), (2, .int x2), (3, .int x3), (4, .int x4)] [.int (bz (iw x2 0 4))] X (0, 0) Q
    refine ev_ifz_eq (pc := 14) (tgt := 35) d_mo_need_14 (by decide) (fun c_4 => ?_) (fun c_4 => ?_)
    · have h_5 := h_3.1 c_4
      exact h_5
    · have h_6 := h_3.2 c_4
      refine ev_iload_n (x := x3) (pc := 17) d_mo_need_17 rfl ?_
      refine ev_if_lt (pc := 18) (tgt := 35) d_mo_need_18 (by decide) (fun c_7 => ?_) (fun c_7 => ?_)
      · have h_8 := h_6.1 c_7
        exact h_8
      · have h_9 := h_6.2 c_7
        refine ev_iload (x := x4) (pc := 21) d_mo_need_21 rfl ?_
        refine ev_iconst (v := 0) (pc := 23) d_mo_need_23 kc_i_0 ?_
        refine ev_iconst (v := 1) (pc := 24) d_mo_need_24 kc_i_1 ?_
        refine ev_callS (z := m_mo_in) (as := [.int x4, .int 0, .int 1]) (rest := []) (pc := 25) d_mo_need_25 l_mo_196 i_mo_in o_mo_in rfl rfl (Nat.le_of_ble_eq_true rfl) rfl (Nat.le_of_ble_eq_true rfl) ⟨Nat.le_of_ble_eq_true rfl, Nat.le_of_ble_eq_true rfl⟩ (s_mo_in hX x4 0 1) (fun r X1 hq => ?_)
        obtain ⟨rfl, rfl⟩ := hq
        show Ev E m_mo_need 28 [(0, .ref 55), (1, .int x1), (2, .int x2), (3, .int x3), (4, .int x4)] [.int (bz (iw x4 0 1))] X (0, 0) Q
        refine ev_ifz_eq (pc := 28) (tgt := 35) d_mo_need_28 (by decide) (fun c_10 => ?_) (fun c_10 => ?_)
        · have h_11 := h_9.1 c_10
          exact h_11
        · have h_12 := h_9.2 c_10
          refine ev_iconst (v := 1) (pc := 31) d_mo_need_31 kc_i_1 ?_
          refine ev_goto (pc := 32) (tgt := 36) d_mo_need_32 (by decide) ?_
          exact h_12
theorem b_mo_need_35 {E : gp_E} {S : gp_S} {X : gp_H} {Q : Option Value → gp_H → Prop} {x1 : Int32} {x2 : Int32} {x3 : Int32} {x4 : Int32} (hX : Lay S X)  (hh : Ev E m_mo_need 36 [(0, .ref 55), (1, .int x1), (2, .int x2), (3, .int x3), (4, .int x4)] [.int 0] X (0, 0) Q) : Ev E m_mo_need 35 [(0, .ref 55), (1, .int x1), (2, .int x2), (3, .int x3), (4, .int x4)] [] X (0, 0) Q := by
  refine ev_iconst (v := 0) (pc := 35) d_mo_need_35 kc_i_0 ?_
  exact hh
theorem b_mo_need_36 {E : gp_E} {S : gp_S} {X : gp_H} {Q : Option Value → gp_H → Prop} {x1 : Int32} {x2 : Int32} {x3 : Int32} {x4 : Int32} {t0 : Int32} (hX : Lay S X)  (hh : ((t0 = 0 → Q (some (.int (-5))) X) ∧ (¬ t0 = 0 → ((¬ x4 = 1 → (∃ Qz_7, Ev E m_mo_needOf 0 [(0, .ref 55), (1, .int x1), (2, .int x2), (3, .int x3), (4, .int 0)] [] X (0, 0) Qz_7 ∧ ∀ r X_10, Qz_7 r X_10 → ∃ v_15 : Int32, r = some (.int v_15) ∧ Lay S X_10 ∧ Q (some (.int v_15)) X_10)) ∧ (x4 = 1 → (∃ Qz_16, Ev E m_mo_needOf 0 [(0, .ref 55), (1, .int x1), (2, .int x2), (3, .int x3), (4, .int 1)] [] X (0, 0) Qz_16 ∧ ∀ r X_19, Qz_16 r X_19 → ∃ v_24 : Int32, r = some (.int v_24) ∧ Lay S X_19 ∧ Q (some (.int v_24)) X_19)))))) : Ev E m_mo_need 36 [(0, .ref 55), (1, .int x1), (2, .int x2), (3, .int x3), (4, .int x4)] [.int t0] X (0, 0) Q := by
  refine ev_istore (L2 := [(0, .ref 55), (1, .int x1), (2, .int x2), (3, .int x3), (4, .int x4), (5, .int t0)]) (pc := 36) d_mo_need_36 rfl (Nat.le_of_ble_eq_true rfl) rfl ?_
  refine ev_iload (x := t0) (pc := 38) d_mo_need_38 rfl ?_
  refine ev_if_eq (pc := 40) (tgt := 64) d_mo_need_40 (by decide) (fun c_1 => ?_) (fun c_1 => ?_)
  · have h_2 := hh.1 c_1
    refine ev_bipush (v := (-5)) (pc := 64) d_mo_need_64 kc_b_m5 ?_
    exact ev_iret (pc := 66) ⟨Nat.le_of_ble_eq_true rfl, Nat.le_of_ble_eq_true rfl⟩ d_mo_need_66 rfl (vp_nar_int _) h_2
  · have h_3 := hh.2 c_1
    refine ev_aload_n (x := 55) (pc := 43) d_mo_need_43 rfl ?_
    refine ev_iload_n (x := x1) (pc := 44) d_mo_need_44 rfl ?_
    refine ev_iload_n (x := x2) (pc := 45) d_mo_need_45 rfl ?_
    refine ev_iload_n (x := x3) (pc := 46) d_mo_need_46 rfl ?_
    refine ev_iload (x := x4) (pc := 47) d_mo_need_47 rfl ?_
    refine ev_iconst (v := 1) (pc := 49) d_mo_need_49 kc_i_1 ?_
    refine ev_icmp_ne (pc := 50) (tgt := 57) d_mo_need_50 (by decide) (fun c_4 => ?_) (fun c_4 => ?_)
    · have h_5 := h_3.1 c_4
      refine ev_iconst (v := 0) (pc := 57) d_mo_need_57 kc_i_0 ?_
      obtain ⟨Qz_7, hc_8, hk_9⟩ := h_5
      refine ev_callV (z := m_mo_needOf) (as := [.int x1, .int x2, .int x3, .int 0]) (rest := []) (pc := 58) d_mo_need_58 (ly_at hX 55 rfl) lt13_12 rfl l_mo_270 i_mo_needOf v_mo_needOf o_mo_needOf rfl rfl (Nat.le_of_ble_eq_true rfl) rfl (Nat.le_of_ble_eq_true rfl) ⟨Nat.le_of_ble_eq_true rfl, Nat.le_of_ble_eq_true rfl⟩ hc_8 (fun r_11 X_10 hq_12 => ?_)
      obtain ⟨v_15, rfl, hX_14, h_13⟩ := hk_9 _ _ hq_12
      show Ev E m_mo_need 61 [(0, .ref 55), (1, .int x1), (2, .int x2), (3, .int x3), (4, .int x4), (5, .int t0)] [.int v_15] X_10 (0, 0) Q
      refine ev_goto (pc := 61) (tgt := 66) d_mo_need_61 (by decide) ?_
      exact ev_iret (pc := 66) ⟨Nat.le_of_ble_eq_true rfl, Nat.le_of_ble_eq_true rfl⟩ d_mo_need_66 rfl (vp_nar_int _) h_13
    · have h_6 := h_3.2 c_4
      refine ev_iconst (v := 1) (pc := 53) d_mo_need_53 kc_i_1 ?_
      refine ev_goto (pc := 54) (tgt := 58) d_mo_need_54 (by decide) ?_
      obtain ⟨Qz_16, hc_17, hk_18⟩ := h_6
      refine ev_callV (z := m_mo_needOf) (as := [.int x1, .int x2, .int x3, .int 1]) (rest := []) (pc := 58) d_mo_need_58 (ly_at hX 55 rfl) lt13_12 rfl l_mo_270 i_mo_needOf v_mo_needOf o_mo_needOf rfl rfl (Nat.le_of_ble_eq_true rfl) rfl (Nat.le_of_ble_eq_true rfl) ⟨Nat.le_of_ble_eq_true rfl, Nat.le_of_ble_eq_true rfl⟩ hc_17 (fun r_20 X_19 hq_21 => ?_)
      obtain ⟨v_24, rfl, hX_23, h_22⟩ := hk_18 _ _ hq_21
      show Ev E m_mo_need 61 [(0, .ref 55), (1, .int x1), (2, .int x2), (3, .int x3), (4, .int x4), (5, .int t0)] [.int v_24] X_19 (0, 0) Q
      refine ev_goto (pc := 61) (tgt := 66) d_mo_need_61 (by decide) ?_
      exact ev_iret (pc := 66) ⟨Nat.le_of_ble_eq_true rfl, Nat.le_of_ble_eq_true rfl⟩ d_mo_need_66 rfl (vp_nar_int _) h_22
