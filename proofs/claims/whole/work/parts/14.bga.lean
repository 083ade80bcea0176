theorem b_ga_knot_0 {E : gp_E} {S : gp_S} {X : gp_H} {Q : Option Value → gp_H → Prop}  (hX : Lay S X)  (hh : (((gI X 1 0) < 12 → Q (some (.int (gI X 1 0))) (gp_sI X 1 0 ((gI X 1 0) + 1))) ∧ (¬ (gI X 1 0) < 12 → Q (some (.int (-4))) X))) : Ev E m_ga_knot 0 [(0, .ref 0)] [] X (0, 0) Q := by
  refine ev_aload_n (x := 0) (pc := 0) d_ga_knot_0 rfl ?_
  refine ev_getR (pc := 1) d_ga_knot_1 f_ga_10 (ly_at hX 0 rfl) gg_11 rfl (ly_rf hX 0 0 rfl) ?_
  refine ev_getJ (v := (gI X 1 0)) (pc := 4) d_ga_knot_4 f_ga_87 (ly_at hX 1 rfl) gg_5 rfl rfl ?_
  refine ev_bipush (v := 12) (pc := 7) d_ga_knot_7 kc_b_12 ?_
  refine ev_icmp_lt (pc := 9) (tgt := 15) d_ga_knot_9 (by decide) (fun c_1 => ?_) (fun c_1 => ?_)
  · have h_2 := hh.1 c_1
    refine ev_aload_n (x := 0) (pc := 15) d_ga_knot_15 rfl ?_
    refine ev_getR (pc := 16) d_ga_knot_16 f_ga_10 (ly_at hX 0 rfl) gg_11 rfl (ly_rf hX 0 0 rfl) ?_
    refine ev_dup (pc := 19) d_ga_knot_19 rfl ?_
    refine ev_getJ (v := (gI X 1 0)) (pc := 20) d_ga_knot_20 f_ga_87 (ly_at hX 1 rfl) gg_5 rfl rfl ?_
    refine ev_dup_x1 (pc := 23) d_ga_knot_23 rfl rfl ?_
    refine ev_iconst (v := 1) (pc := 24) d_ga_knot_24 kc_i_1 ?_
    refine ev_iadd (pc := 25) d_ga_knot_25 ?_
    refine ev_putI (pc := 26) d_ga_knot_26 f_ga_87 (ly_at hX 1 rfl) gg_5 rfl (Or.inl rfl) (vp_nar_int _) rfl ?_
    exact ev_iret (pc := 29) ⟨Nat.le_of_ble_eq_true rfl, Nat.le_of_ble_eq_true rfl⟩ d_ga_knot_29 rfl (vp_nar_int _) h_2
  · have h_3 := hh.2 c_1
    refine ev_bipush (v := (-4)) (pc := 12) d_ga_knot_12 kc_b_m4 ?_
    exact ev_iret (pc := 14) ⟨Nat.le_of_ble_eq_true rfl, Nat.le_of_ble_eq_true rfl⟩ d_ga_knot_14 rfl (vp_nar_int _) h_3
theorem b_ga_pipe_0 {E : gp_E} {S : gp_S} {X : gp_H} {Q : Option Value → gp_H → Prop} {x1 : Int32} {x2 : Int32} {x3 : Int32} (hX : Lay S X)  (hh : (((iw x1 0 ((gI X 1 0) - 1)) = false → Q (some (.int (-1))) X) ∧ ((iw x1 0 ((gI X 1 0) - 1)) = true → (((iw x2 0 ((gI X 1 0) - 1)) = true → ((x1 = x2 → Q (some (.int (-2))) X) ∧ (¬ x1 = x2 → (((ifl x3) = true → (((gI X 1 1) < 20 → ((¬ x3 = 1 → (∃ Qz_19, Ev E m_ne_addPipe 0 [(0, .ref 1), (1, .int x1), (2, .int x2), (3, .int 0)] [] X (0, 0) Qz_19 ∧ ∀ r X_22, Qz_19 r X_22 → ∃ v_27 : Int32, r = some (.int v_27) ∧ Lay S X_22 ∧ Q (some (.int v_27)) X_22)) ∧ (x3 = 1 → (∃ Qz_28, Ev E m_ne_addPipe 0 [(0, .ref 1), (1, .int x1), (2, .int x2), (3, .int 1)] [] X (0, 0) Qz_28 ∧ ∀ r X_31, Qz_28 r X_31 → ∃ v_36 : Int32, r = some (.int v_36) ∧ Lay S X_31 ∧ Q (some (.int v_36)) X_31)))) ∧ (¬ (gI X 1 1) < 20 → Q (some (.int (-4))) X))) ∧ ((ifl x3) = false → Q (some (.int (-2))) X))))) ∧ ((iw x2 0 ((gI X 1 0) - 1)) = false → Q (some (.int (-1))) X))))) : Ev E m_ga_pipe 0 [(0, .ref 0), (1, .int x1), (2, .int x2), (3, .int x3)] [] X (0, 0) Q := by
  refine ev_aload_n (x := 0) (pc := 0) d_ga_pipe_0 rfl ?_
  refine ev_getR (pc := 1) d_ga_pipe_1 f_ga_10 (ly_at hX 0 rfl) gg_11 rfl (ly_rf hX 0 0 rfl) ?_
  refine ev_iload_n (x := x1) (pc := 4) d_ga_pipe_4 rfl ?_
  refine ev_callV (z := m_ne_hasKnot) (as := [.int x1]) (rest := []) (pc := 5) d_ga_pipe_5 (ly_at hX 1 rfl) lt13_5 rfl l_ga_91 i_ne_hasKnot v_ne_hasKnot o_ne_hasKnot rfl rfl (Nat.le_of_ble_eq_true rfl) rfl (Nat.le_of_ble_eq_true rfl) ⟨Nat.le_of_ble_eq_true rfl, Nat.le_of_ble_eq_true rfl⟩ (s_ne_hasKnot hX x1 ) (fun r X1 hq => ?_)
  obtain ⟨rfl, rfl⟩ := hq
  show Ev E m_ga_pipe 8 [(0, .ref 0), (1, .int x1), (2, .int x2), (3, .int x3)] [.int (bz (iw x1 0 ((gI X 1 0) - 1)))] X (0, 0) Q
  refine ev_ifz_eq (pc := 8) (tgt := 22) d_ga_pipe_8 (by decide) (fun c_1 => ?_) (fun c_1 => ?_)
  · have h_2 := hh.1 c_1
    refine ev_iconst (v := (-1)) (pc := 22) d_ga_pipe_22 kc_i_m1 ?_
    exact ev_iret (pc := 23) ⟨Nat.le_of_ble_eq_true rfl, Nat.le_of_ble_eq_true rfl⟩ d_ga_pipe_23 rfl (vp_nar_int _) h_2
  · have h_3 := hh.2 c_1
    refine ev_aload_n (x := 0) (pc := 11) d_ga_pipe_11 rfl ?_
    refine ev_getR (pc := 12) d_ga_pipe_12 f_ga_10 (ly_at hX 0 rfl) gg_11 rfl (ly_rf hX 0 0 rfl) ?_
    refine ev_iload_n (x := x2) (pc := 15) d_ga_pipe_15 rfl ?_
    refine ev_callV (z := m_ne_hasKnot) (as := [.int x2]) (rest := []) (pc := 16) d_ga_pipe_16 (ly_at hX 1 rfl) lt13_5 rfl l_ga_91 i_ne_hasKnot v_ne_hasKnot o_ne_hasKnot rfl rfl (Nat.le_of_ble_eq_true rfl) rfl (Nat.le_of_ble_eq_true rfl) ⟨Nat.le_of_ble_eq_true rfl, Nat.le_of_ble_eq_true rfl⟩ (s_ne_hasKnot hX x2 ) (fun r X1 hq => ?_)
    obtain ⟨rfl, rfl⟩ := hq
    show Ev E m_ga_pipe 19 [(0, .ref 0), (1, .int x1), (2, .int x2), (3, .int x3)] [.int (bz (iw x2 0 ((gI X 1 0) - 1)))] X (0, 0) Q
    refine ev_ifz_ne (pc := 19) (tgt := 24) d_ga_pipe_19 (by decide) (fun c_4 => ?_) (fun c_4 => ?_)
    · have h_5 := h_3.1 c_4
      refine ev_iload_n (x := x1) (pc := 24) d_ga_pipe_24 rfl ?_
      refine ev_iload_n (x := x2) (pc := 25) d_ga_pipe_25 rfl ?_
      refine ev_icmp_eq (pc := 26) (tgt := 36) d_ga_pipe_26 (by decide) (fun c_7 => ?_) (fun c_7 => ?_)
      · have h_8 := h_5.1 c_7
        refine ev_bipush (v := (-2)) (pc := 36) d_ga_pipe_36 kc_b_m2 ?_
        exact ev_iret (pc := 38) ⟨Nat.le_of_ble_eq_true rfl, Nat.le_of_ble_eq_true rfl⟩ d_ga_pipe_38 rfl (vp_nar_int _) h_8
      · have h_9 := h_5.2 c_7
        refine ev_iload_n (x := x3) (pc := 29) d_ga_pipe_29 rfl ?_
        refine ev_callS (z := m_ga_isFlag) (as := [.int x3]) (rest := []) (pc := 30) d_ga_pipe_30 l_ga_95 i_ga_isFlag o_ga_isFlag rfl rfl (Nat.le_of_ble_eq_true rfl) rfl (Nat.le_of_ble_eq_true rfl) ⟨Nat.le_of_ble_eq_true rfl, Nat.le_of_ble_eq_true rfl⟩ (s_ga_isFlag hX x3) (fun r X1 hq => ?_)
        obtain ⟨rfl, rfl⟩ := hq
        show Ev E m_ga_pipe 33 [(0, .ref 0), (1, .int x1), (2, .int x2), (3, .int x3)] [.int (bz (ifl x3))] X (0, 0) Q
        refine ev_ifz_ne (pc := 33) (tgt := 39) d_ga_pipe_33 (by decide) (fun c_10 => ?_) (fun c_10 => ?_)
        · have h_11 := h_9.1 c_10
          refine ev_aload_n (x := 0) (pc := 39) d_ga_pipe_39 rfl ?_
          refine ev_getR (pc := 40) d_ga_pipe_40 f_ga_10 (ly_at hX 0 rfl) gg_11 rfl (ly_rf hX 0 0 rfl) ?_
          refine ev_getJ (v := (gI X 1 1)) (pc := 43) d_ga_pipe_43 f_ga_98 (ly_at hX 1 rfl) gg_5 rfl rfl ?_
          refine ev_bipush (v := 20) (pc := 46) d_ga_pipe_46 kc_b_20 ?_
          refine ev_icmp_lt (pc := 48) (tgt := 54) d_ga_pipe_48 (by decide) (fun c_13 => ?_) (fun c_13 => ?_)
          · have h_14 := h_11.1 c_13
            refine ev_aload_n (x := 0) (pc := 54) d_ga_pipe_54 rfl ?_
            refine ev_getR (pc := 55) d_ga_pipe_55 f_ga_10 (ly_at hX 0 rfl) gg_11 rfl (ly_rf hX 0 0 rfl) ?_
            refine ev_iload_n (x := x1) (pc := 58) d_ga_pipe_58 rfl ?_
            refine ev_iload_n (x := x2) (pc := 59) d_ga_pipe_59 rfl ?_
            refine ev_iload_n (x := x3) (pc := 60) d_ga_pipe_60 rfl ?_
            refine ev_iconst (v := 1) (pc := 61) d_ga_pipe_61 kc_i_1 ?_
            refine ev_icmp_ne (pc := 62) (tgt := 69) d_ga_pipe_62 (by decide) (fun c_16 => ?_) (fun c_16 => ?_)
            · have h_17 := h_14.1 c_16
              refine ev_iconst (v := 0) (pc := 69) d_ga_pipe_69 kc_i_0 ?_
              obtain ⟨Qz_19, hc_20, hk_21⟩ := h_17
              refine ev_callV (z := m_ne_addPipe) (as := [.int x1, .int x2, .int 0]) (rest := []) (pc := 70) d_ga_pipe_70 (ly_at hX 1 rfl) lt13_5 rfl l_ga_101 i_ne_addPipe v_ne_addPipe o_ne_addPipe rfl rfl (Nat.le_of_ble_eq_true rfl) rfl (Nat.le_of_ble_eq_true rfl) ⟨Nat.le_of_ble_eq_true rfl, Nat.le_of_ble_eq_true rfl⟩ hc_20 (fun r_23 X_22 hq_24 => ?_)
              obtain ⟨v_27, rfl, hX_26, h_25⟩ := hk_21 _ _ hq_24
              show Ev E m_ga_pipe 73 [(0, .ref 0), (1, .int x1), (2, .int x2), (3, .int x3)] [.int v_27] X_22 (0, 0) Q
              exact ev_iret (pc := 73) ⟨Nat.le_of_ble_eq_true rfl, Nat.le_of_ble_eq_true rfl⟩ d_ga_pipe_73 rfl (vp_nar_int _) h_25
            · have h_18 := h_14.2 c_16
              refine ev_iconst (v := 1) (pc := 65) d_ga_pipe_65 kc_i_1 ?_
              refine ev_goto (pc := 66) (tgt := 70) d_ga_pipe_66 (by decide) ?_
              obtain ⟨Qz_28, hc_29, hk_30⟩ := h_18
              refine ev_callV (z := m_ne_addPipe) (as := [.int x1, .int x2, .int 1]) (rest := []) (pc := 70) d_ga_pipe_70 (ly_at hX 1 rfl) lt13_5 rfl l_ga_101 i_ne_addPipe v_ne_addPipe o_ne_addPipe rfl rfl (Nat.le_of_ble_eq_true rfl) rfl (Nat.le_of_ble_eq_true rfl) ⟨Nat.le_of_ble_eq_true rfl, Nat.le_of_ble_eq_true rfl⟩ hc_29 (fun r_32 X_31 hq_33 => ?_)
              obtain ⟨v_36, rfl, hX_35, h_34⟩ := hk_30 _ _ hq_33
              show Ev E m_ga_pipe 73 [(0, .ref 0), (1, .int x1), (2, .int x2), (3, .int x3)] [.int v_36] X_31 (0, 0) Q
              exact ev_iret (pc := 73) ⟨Nat.le_of_ble_eq_true rfl, Nat.le_of_ble_eq_true rfl⟩ d_ga_pipe_73 rfl (vp_nar_int _) h_34
          · have h_15 := h_11.2 c_13
            refine ev_bipush (v := (-4)) (pc := 51) d_ga_pipe_51 kc_b_m4 ?_
            exact ev_iret (pc := 53) ⟨Nat.le_of_ble_eq_true rfl, Nat.le_of_ble_eq_true rfl⟩ d_ga_pipe_53 rfl (vp_nar_int _) h_15
        · have h_12 := h_9.2 c_10
          refine ev_bipush (v := (-2)) (pc := 36) d_ga_pipe_36 kc_b_m2 ?_
          exact ev_iret (pc := 38) ⟨Nat.le_of_ble_eq_true rfl, Nat.le_of_ble_eq_true rfl⟩ d_ga_pipe_38 rfl (vp_nar_int _) h_12
    · have h_6 := h_3.2 c_4
      refine ev_iconst (v := (-1)) (pc := 22) d_ga_pipe_22 kc_i_m1 ?_
      exact ev_iret (pc := 23) ⟨Nat.le_of_ble_eq_true rfl, Nat.le_of_ble_eq_true rfl⟩ d_ga_pipe_23 rfl (vp_nar_int _) h_6
theorem b_ga_valve_0 {E : gp_E} {S : gp_S} {X : gp_H} {Q : Option Value → gp_H → Prop} {x1 : Int32} {x2 : Int32} (hX : Lay S X)  (hh : (((iw x1 0 ((gI X 1 1) - 1)) = true → (((ifl x2) = true → (vp_in x1 20 ∧ ((¬ (gI X 4 (Int32.toNatClampNeg x1)) = 0 → ((¬ x2 = 1 → Ev E m_ga_valve 69 [(0, .ref 0), (1, .int x1), (2, .int x2), (3, .int (bz (!decide ((gI X 5 (Int32.toNatClampNeg x1)) = 0))))] [.int 0, .int x1, .ref 5] X (0, 0) Q) ∧ (x2 = 1 → Ev E m_ga_valve 69 [(0, .ref 0), (1, .int x1), (2, .int x2), (3, .int (bz (!decide ((gI X 5 (Int32.toNatClampNeg x1)) = 0))))] [.int 1, .int x1, .ref 5] X (0, 0) Q))) ∧ ((gI X 4 (Int32.toNatClampNeg x1)) = 0 → Q (some (.int (-3))) X)))) ∧ ((ifl x2) = false → Q (some (.int (-2))) X))) ∧ ((iw x1 0 ((gI X 1 1) - 1)) = false → Q (some (.int (-1))) X))) : Ev E m_ga_valve 0 [(0, .ref 0), (1, .int x1), (2, .int x2)] [] X (0, 0) Q := by
  refine ev_aload_n (x := 0) (pc := 0) d_ga_valve_0 rfl ?_
  refine ev_getR (pc := 1) d_ga_valve_1 f_ga_10 (ly_at hX 0 rfl) gg_11 rfl (ly_rf hX 0 0 rfl) ?_
  refine ev_iload_n (x := x1) (pc := 4) d_ga_valve_4 rfl ?_
  refine ev_callV (z := m_ne_hasPipe) (as := [.int x1]) (rest := []) (pc := 5) d_ga_valve_5 (ly_at hX 1 rfl) lt13_5 rfl l_ga_105 i_ne_hasPipe v_ne_hasPipe o_ne_hasPipe rfl rfl (Nat.le_of_ble_eq_true rfl) rfl (Nat.le_of_ble_eq_true rfl) ⟨Nat.le_of_ble_eq_true rfl, Nat.le_of_ble_eq_true rfl⟩ (s_ne_hasPipe hX x1 ) (fun r X1 hq => ?_)
  obtain ⟨rfl, rfl⟩ := hq
  show Ev E m_ga_valve 8 [(0, .ref 0), (1, .int x1), (2, .int x2)] [.int (bz (iw x1 0 ((gI X 1 1) - 1)))] X (0, 0) Q
  refine ev_ifz_ne (pc := 8) (tgt := 13) d_ga_valve_8 (by decide) (fun c_1 => ?_) (fun c_1 => ?_)
  · have h_2 := hh.1 c_1
    refine ev_iload_n (x := x2) (pc := 13) d_ga_valve_13 rfl ?_
    refine ev_callS (z := m_ga_isFlag) (as := [.int x2]) (rest := []) (pc := 14) d_ga_valve_14 l_ga_95 i_ga_isFlag o_ga_isFlag rfl rfl (Nat.le_of_ble_eq_true rfl) rfl (Nat.le_of_ble_eq_true rfl) ⟨Nat.le_of_ble_eq_true rfl, Nat.le_of_ble_eq_true rfl⟩ (s_ga_isFlag hX x2) (fun r X1 hq => ?_)
    obtain ⟨rfl, rfl⟩ := hq
    show Ev E m_ga_valve 17 [(0, .ref 0), (1, .int x1), (2, .int x2)] [.int (bz (ifl x2))] X (0, 0) Q
    refine ev_ifz_ne (pc := 17) (tgt := 23) d_ga_valve_17 (by decide) (fun c_4 => ?_) (fun c_4 => ?_)
    · have h_5 := h_2.1 c_4
      refine ev_aload_n (x := 0) (pc := 23) d_ga_valve_23 rfl ?_
      refine ev_getR (pc := 24) d_ga_valve_24 f_ga_10 (ly_at hX 0 rfl) gg_11 rfl (ly_rf hX 0 0 rfl) ?_
      refine ev_getR (pc := 27) d_ga_valve_27 f_ga_108 (ly_at hX 1 rfl) gg_5 rfl (ly_rf hX 1 4 rfl) ?_
      refine ev_iload_n (x := x1) (pc := 30) d_ga_valve_30 rfl ?_
      refine ev_zaldJ (v := (gI X 4 (Int32.toNatClampNeg x1))) (pc := 31) d_ga_valve_31 (ly_at hX 4 rfl) h_5.1 rfl ?_
      refine ev_if_ne (pc := 32) (tgt := 38) d_ga_valve_32 (by decide) (fun c_7 => ?_) (fun c_7 => ?_)
      · have h_8 := h_5.2.1 c_7
        refine ev_aload_n (x := 0) (pc := 38) d_ga_valve_38 rfl ?_
        refine ev_getR (pc := 39) d_ga_valve_39 f_ga_10 (ly_at hX 0 rfl) gg_11 rfl (ly_rf hX 0 0 rfl) ?_
        refine ev_getR (pc := 42) d_ga_valve_42 f_ga_112 (ly_at hX 1 rfl) gg_5 rfl (ly_rf hX 1 5 rfl) ?_
        refine ev_iload_n (x := x1) (pc := 45) d_ga_valve_45 rfl ?_
        refine ev_zaldJ (v := (gI X 5 (Int32.toNatClampNeg x1))) (pc := 46) d_ga_valve_46 (ly_at hX 5 rfl) h_5.1 rfl ?_
        refine ev_callS (z := m_ga_flag) (as := [.int (gI X 5 (Int32.toNatClampNeg x1))]) (rest := []) (pc := 47) d_ga_valve_47 l_ga_115 i_ga_flag o_ga_flag rfl rfl (Nat.le_of_ble_eq_true rfl) rfl (Nat.le_of_ble_eq_true rfl) ⟨Nat.le_of_ble_eq_true rfl, Nat.le_of_ble_eq_true rfl⟩ (s_ga_flag hX (gI X 5 (Int32.toNatClampNeg x1))) (fun r X1 hq => ?_)
        obtain ⟨rfl, rfl⟩ := hq
        show Ev E m_ga_valve 50 [(0, .ref 0), (1, .int x1), (2, .int x2)] [.int (bz (!decide ((gI X 5 (Int32.toNatClampNeg x1)) = 0)))] X (0, 0) Q
        refine ev_istore_n (L2 := [(0, .ref 0), (1, .int x1), (2, .int x2), (3, .int (bz (!decide ((gI X 5 (Int32.toNatClampNeg x1)) = 0))))]) (pc := 50) d_ga_valve_50 rfl (Nat.le_of_ble_eq_true rfl) rfl ?_
        refine ev_aload_n (x := 0) (pc := 51) d_ga_valve_51 rfl ?_
        refine ev_getR (pc := 52) d_ga_valve_52 f_ga_10 (ly_at hX 0 rfl) gg_11 rfl (ly_rf hX 0 0 rfl) ?_
        refine ev_getR (pc := 55) d_ga_valve_55 f_ga_112 (ly_at hX 1 rfl) gg_5 rfl (ly_rf hX 1 5 rfl) ?_
        refine ev_iload_n (x := x1) (pc := 58) d_ga_valve_58 rfl ?_
        refine ev_iload_n (x := x2) (pc := 59) d_ga_valve_59 rfl ?_
        refine ev_iconst (v := 1) (pc := 60) d_ga_valve_60 kc_i_1 ?_
        refine ev_icmp_ne (pc := 61) (tgt := 68) d_ga_valve_61 (by decide) (fun c_10 => ?_) (fun c_10 => ?_)
        · have h_11 := h_8.1 c_10
          refine ev_iconst (v := 0) (pc := 68) d_ga_valve_68 kc_i_0 ?_
          exact h_11
        · have h_12 := h_8.2 c_10
          refine ev_iconst (v := 1) (pc := 64) d_ga_valve_64 kc_i_1 ?_
          refine ev_goto (pc := 65) (tgt := 69) d_ga_valve_65 (by decide) ?_
          exact h_12
      · have h_9 := h_5.2.2 c_7
        refine ev_bipush (v := (-3)) (pc := 35) d_ga_valve_35 kc_b_m3 ?_
        exact ev_iret (pc := 37) ⟨Nat.le_of_ble_eq_true rfl, Nat.le_of_ble_eq_true rfl⟩ d_ga_valve_37 rfl (vp_nar_int _) h_9
    · have h_6 := h_2.2 c_4
      refine ev_bipush (v := (-2)) (pc := 20) d_ga_valve_20 kc_b_m2 ?_
      exact ev_iret (pc := 22) ⟨Nat.le_of_ble_eq_true rfl, Nat.le_of_ble_eq_true rfl⟩ d_ga_valve_22 rfl (vp_nar_int _) h_6
  · have h_3 := hh.2 c_1
    refine ev_iconst (v := (-1)) (pc := 11) d_ga_valve_11 kc_i_m1 ?_
    exact ev_iret (pc := 12) ⟨Nat.le_of_ble_eq_true rfl, Nat.le_of_ble_eq_true rfl⟩ d_ga_valve_12 rfl (vp_nar_int _) h_3
theorem b_ga_valve_69 {E : gp_E} {S : gp_S} {X : gp_H} {Q : Option Value → gp_H → Prop} {x1 : Int32} {x2 : Int32} {x3 : Int32} {t0 : Int32} {t1 : Int32} (hX : Lay S X)  (hh : (vp_in t1 20 ∧ (narrow .boolean (.int t0) = .int t0 ∧ (∃ Qz_1, Ev E m_ne_joinOpen 0 [(0, .ref 1)] [] (gp_sI X 5 (Int32.toNatClampNeg t1) t0) (0, 0) Qz_1 ∧ ∀ r X_4, Qz_1 r X_4 → (r = none ∧ Lay S X_4 ∧ Q (some (.int x3)) X_4))))) : Ev E m_ga_valve 69 [(0, .ref 0), (1, .int x1), (2, .int x2), (3, .int x3)] [.int t0, .int t1, .ref 5] X (0, 0) Q := by
  refine ev_zast (pc := 69) d_ga_valve_69 (ly_at hX 5 rfl) hh.1 hh.2.1 ?_
  refine ev_aload_n (x := 0) (pc := 70) d_ga_valve_70 rfl ?_
  refine ev_getR (pc := 71) d_ga_valve_71 f_ga_10 (ly_at (ly_sI hX) 0 rfl) gg_11 rfl (ly_rf (ly_sI hX) 0 0 rfl) ?_
  obtain ⟨Qz_1, hc_2, hk_3⟩ := hh.2.2
  refine ev_callV (z := m_ne_joinOpen) (as := []) (rest := []) (pc := 74) d_ga_valve_74 (ly_at (ly_sI hX) 1 rfl) lt13_5 rfl l_ga_119 i_ne_joinOpen v_ne_joinOpen o_ne_joinOpen rfl rfl (Nat.le_of_ble_eq_true rfl) rfl (Nat.le_of_ble_eq_true rfl) ⟨Nat.le_of_ble_eq_true rfl, Nat.le_of_ble_eq_true rfl⟩ hc_2 (fun r_5 X_4 hq_6 => ?_)
  obtain ⟨rfl, hX_8, h_7⟩ := hk_3 _ _ hq_6
  show Ev E m_ga_valve 77 [(0, .ref 0), (1, .int x1), (2, .int x2), (3, .int x3)] [] X_4 (0, 0) Q
  refine ev_iload_n (x := x3) (pc := 77) d_ga_valve_77 rfl ?_
  exact ev_iret (pc := 78) ⟨Nat.le_of_ble_eq_true rfl, Nat.le_of_ble_eq_true rfl⟩ d_ga_valve_78 rfl (vp_nar_int _) h_7
theorem b_ga_lost_0 {E : gp_E} {S : gp_S} {X : gp_H} {Q : Option Value → gp_H → Prop} {x1 : Int32} (hX : Lay S X)  (hh : (((iw x1 0 ((gI X 1 1) - 1)) = true → (vp_in x1 20 ∧ ((¬ (gI X 4 (Int32.toNatClampNeg x1)) = 0 → (∃ Qz_7, Ev E m_ne_joinOpen 0 [(0, .ref 1)] [] (gp_sI (gp_sI X 4 (Int32.toNatClampNeg x1) 0) 5 (Int32.toNatClampNeg x1) 1) (0, 0) Qz_7 ∧ ∀ r X_10, Qz_7 r X_10 → (r = none ∧ Lay S X_10 ∧ Q (some (.int (bz (!decide ((gI X 5 (Int32.toNatClampNeg x1)) = 0))))) X_10))) ∧ ((gI X 4 (Int32.toNatClampNeg x1)) = 0 → Q (some (.int (-3))) X)))) ∧ ((iw x1 0 ((gI X 1 1) - 1)) = false → Q (some (.int (-1))) X))) : Ev E m_ga_lost 0 [(0, .ref 0), (1, .int x1)] [] X (0, 0) Q := by
  refine ev_aload_n (x := 0) (pc := 0) d_ga_lost_0 rfl ?_
  refine ev_getR (pc := 1) d_ga_lost_1 f_ga_10 (ly_at hX 0 rfl) gg_11 rfl (ly_rf hX 0 0 rfl) ?_
  refine ev_iload_n (x := x1) (pc := 4) d_ga_lost_4 rfl ?_
  refine ev_callV (z := m_ne_hasPipe) (as := [.int x1]) (rest := []) (pc := 5) d_ga_lost_5 (ly_at hX 1 rfl) lt13_5 rfl l_ga_105 i_ne_hasPipe v_ne_hasPipe o_ne_hasPipe rfl rfl (Nat.le_of_ble_eq_true rfl) rfl (Nat.le_of_ble_eq_true rfl) ⟨Nat.le_of_ble_eq_true rfl, Nat.le_of_ble_eq_true rfl⟩ (s_ne_hasPipe hX x1 ) (fun r X1 hq => ?_)
  obtain ⟨rfl, rfl⟩ := hq
  show Ev E m_ga_lost 8 [(0, .ref 0), (1, .int x1)] [.int (bz (iw x1 0 ((gI X 1 1) - 1)))] X (0, 0) Q
  refine ev_ifz_ne (pc := 8) (tgt := 13) d_ga_lost_8 (by decide) (fun c_1 => ?_) (fun c_1 => ?_)
  · have h_2 := hh.1 c_1
    refine ev_aload_n (x := 0) (pc := 13) d_ga_lost_13 rfl ?_
    refine ev_getR (pc := 14) d_ga_lost_14 f_ga_10 (ly_at hX 0 rfl) gg_11 rfl (ly_rf hX 0 0 rfl) ?_
    refine ev_getR (pc := 17) d_ga_lost_17 f_ga_108 (ly_at hX 1 rfl) gg_5 rfl (ly_rf hX 1 4 rfl) ?_
    refine ev_iload_n (x := x1) (pc := 20) d_ga_lost_20 rfl ?_
    refine ev_zaldJ (v := (gI X 4 (Int32.toNatClampNeg x1))) (pc := 21) d_ga_lost_21 (ly_at hX 4 rfl) h_2.1 rfl ?_
    refine ev_if_ne (pc := 22) (tgt := 28) d_ga_lost_22 (by decide) (fun c_4 => ?_) (fun c_4 => ?_)
    · have h_5 := h_2.2.1 c_4
      refine ev_aload_n (x := 0) (pc := 28) d_ga_lost_28 rfl ?_
      refine ev_getR (pc := 29) d_ga_lost_29 f_ga_10 (ly_at hX 0 rfl) gg_11 rfl (ly_rf hX 0 0 rfl) ?_
      refine ev_getR (pc := 32) d_ga_lost_32 f_ga_112 (ly_at hX 1 rfl) gg_5 rfl (ly_rf hX 1 5 rfl) ?_
      refine ev_iload_n (x := x1) (pc := 35) d_ga_lost_35 rfl ?_
      refine ev_zaldJ (v := (gI X 5 (Int32.toNatClampNeg x1))) (pc := 36) d_ga_lost_36 (ly_at hX 5 rfl) h_2.1 rfl ?_
      refine ev_callS (z := m_ga_flag) (as := [.int (gI X 5 (Int32.toNatClampNeg x1))]) (rest := []) (pc := 37) d_ga_lost_37 l_ga_115 i_ga_flag o_ga_flag rfl rfl (Nat.le_of_ble_eq_true rfl) rfl (Nat.le_of_ble_eq_true rfl) ⟨Nat.le_of_ble_eq_true rfl, Nat.le_of_ble_eq_true rfl⟩ (s_ga_flag hX (gI X 5 (Int32.toNatClampNeg x1))) (fun r X1 hq => ?_)
      obtain ⟨rfl, rfl⟩ := hq
      show Ev E m_ga_lost 40 [(0, .ref 0), (1, .int x1)] [.int (bz (!decide ((gI X 5 (Int32.toNatClampNeg x1)) = 0)))] X (0, 0) Q
      refine ev_istore_n (L2 := [(0, .ref 0), (1, .int x1), (2, .int (bz (!decide ((gI X 5 (Int32.toNatClampNeg x1)) = 0))))]) (pc := 40) d_ga_lost_40 rfl (Nat.le_of_ble_eq_true rfl) rfl ?_
      refine ev_aload_n (x := 0) (pc := 41) d_ga_lost_41 rfl ?_
      refine ev_getR (pc := 42) d_ga_lost_42 f_ga_10 (ly_at hX 0 rfl) gg_11 rfl (ly_rf hX 0 0 rfl) ?_
      refine ev_getR (pc := 45) d_ga_lost_45 f_ga_108 (ly_at hX 1 rfl) gg_5 rfl (ly_rf hX 1 4 rfl) ?_
      refine ev_iload_n (x := x1) (pc := 48) d_ga_lost_48 rfl ?_
      refine ev_iconst (v := 0) (pc := 49) d_ga_lost_49 kc_i_0 ?_
      refine ev_zast (pc := 50) d_ga_lost_50 (ly_at hX 4 rfl) h_2.1 nb_0 ?_
      refine ev_aload_n (x := 0) (pc := 51) d_ga_lost_51 rfl ?_
      refine ev_getR (pc := 52) d_ga_lost_52 f_ga_10 (ly_at (ly_sI hX) 0 rfl) gg_11 rfl (ly_rf (ly_sI hX) 0 0 rfl) ?_
      refine ev_getR (pc := 55) d_ga_lost_55 f_ga_112 (ly_at (ly_sI hX) 1 rfl) gg_5 rfl (ly_rf (ly_sI hX) 1 5 rfl) ?_
      refine ev_iload_n (x := x1) (pc := 58) d_ga_lost_58 rfl ?_
      refine ev_iconst (v := 1) (pc := 59) d_ga_lost_59 kc_i_1 ?_
      refine ev_zast (pc := 60) d_ga_lost_60 (ly_at (ly_sI hX) 5 rfl) h_2.1 nb_1 ?_
      refine ev_aload_n (x := 0) (pc := 61) d_ga_lost_61 rfl ?_
      refine ev_getR (pc := 62) d_ga_lost_62 f_ga_10 (ly_at (ly_sI (ly_sI hX)) 0 rfl) gg_11 rfl (ly_rf (ly_sI (ly_sI hX)) 0 0 rfl) ?_
      obtain ⟨Qz_7, hc_8, hk_9⟩ := h_5
      refine ev_callV (z := m_ne_joinOpen) (as := []) (rest := []) (pc := 65) d_ga_lost_65 (ly_at (ly_sI (ly_sI hX)) 1 rfl) lt13_5 rfl l_ga_119 i_ne_joinOpen v_ne_joinOpen o_ne_joinOpen rfl rfl (Nat.le_of_ble_eq_true rfl) rfl (Nat.le_of_ble_eq_true rfl) ⟨Nat.le_of_ble_eq_true rfl, Nat.le_of_ble_eq_true rfl⟩ hc_8 (fun r_11 X_10 hq_12 => ?_)
      obtain ⟨rfl, hX_14, h_13⟩ := hk_9 _ _ hq_12
      show Ev E m_ga_lost 68 [(0, .ref 0), (1, .int x1), (2, .int (bz (!decide ((gI X 5 (Int32.toNatClampNeg x1)) = 0))))] [] X_10 (0, 0) Q
      refine ev_iload_n (x := (bz (!decide ((gI X 5 (Int32.toNatClampNeg x1)) = 0)))) (pc := 68) d_ga_lost_68 rfl ?_
      exact ev_iret (pc := 69) ⟨Nat.le_of_ble_eq_true rfl, Nat.le_of_ble_eq_true rfl⟩ d_ga_lost_69 rfl (vp_nar_int _) h_13
    · have h_6 := h_2.2.2 c_4
      refine ev_bipush (v := (-3)) (pc := 25) d_ga_lost_25 kc_b_m3 ?_
      exact ev_iret (pc := 27) ⟨Nat.le_of_ble_eq_true rfl, Nat.le_of_ble_eq_true rfl⟩ d_ga_lost_27 rfl (vp_nar_int _) h_6
  · have h_3 := hh.2 c_1
    refine ev_iconst (v := (-1)) (pc := 11) d_ga_lost_11 kc_i_m1 ?_
    exact ev_iret (pc := 12) ⟨Nat.le_of_ble_eq_true rfl, Nat.le_of_ble_eq_true rfl⟩ d_ga_lost_12 rfl (vp_nar_int _) h_3
theorem b_ga_pipeOf_0 {E : gp_E} {S : gp_S} {X : gp_H} {Q : Option Value → gp_H → Prop} {x1 : Int32} {x2 : Int32} (hX : Lay S X)  (hh : (((iw x1 0 ((gI X 1 1) - 1)) = true → (((x2.toInt < 0 ∨ 3 < x2.toInt) → Q (some (.int (-5))) X) ∧ (x2 = 0 → (vp_in x1 20 ∧ Q (some (.int (gI X 2 (Int32.toNatClampNeg x1)))) X)) ∧ (x2 = 1 → (vp_in x1 20 ∧ Q (some (.int (gI X 3 (Int32.toNatClampNeg x1)))) X)) ∧ (x2 = 2 → (vp_in x1 20 ∧ Q (some (.int (bz (!decide ((gI X 4 (Int32.toNatClampNeg x1)) = 0))))) X)) ∧ (x2 = 3 → (vp_in x1 20 ∧ Q (some (.int (bz (!decide ((gI X 5 (Int32.toNatClampNeg x1)) = 0))))) X)))) ∧ ((iw x1 0 ((gI X 1 1) - 1)) = false → Q (some (.int (-5))) X))) : Ev E m_ga_pipeOf 0 [(0, .ref 0), (1, .int x1), (2, .int x2)] [] X (0, 0) Q := by
  refine ev_aload_n (x := 0) (pc := 0) d_ga_pipeOf_0 rfl ?_
  refine ev_getR (pc := 1) d_ga_pipeOf_1 f_ga_10 (ly_at hX 0 rfl) gg_11 rfl (ly_rf hX 0 0 rfl) ?_
  refine ev_iload_n (x := x1) (pc := 4) d_ga_pipeOf_4 rfl ?_
  refine ev_callV (z := m_ne_hasPipe) (as := [.int x1]) (rest := []) (pc := 5) d_ga_pipeOf_5 (ly_at hX 1 rfl) lt13_5 rfl l_ga_105 i_ne_hasPipe v_ne_hasPipe o_ne_hasPipe rfl rfl (Nat.le_of_ble_eq_true rfl) rfl (Nat.le_of_ble_eq_true rfl) ⟨Nat.le_of_ble_eq_true rfl, Nat.le_of_ble_eq_true rfl⟩ (s_ne_hasPipe hX x1 ) (fun r X1 hq => ?_)
  obtain ⟨rfl, rfl⟩ := hq
  show Ev E m_ga_pipeOf 8 [(0, .ref 0), (1, .int x1), (2, .int x2)] [.int (bz (iw x1 0 ((gI X 1 1) - 1)))] X (0, 0) Q
  refine ev_ifz_ne (pc := 8) (tgt := 14) d_ga_pipeOf_8 (by decide) (fun c_1 => ?_) (fun c_1 => ?_)
  · have h_2 := hh.1 c_1
    refine ev_iload_n (x := x2) (pc := 14) d_ga_pipeOf_14 rfl ?_
    rcases gp_tab (lo := 0) (n := 4) x2 with c_9 | ⟨k, hk, c_9⟩
    · have h_4 := h_2.1 (by omega)
      refine ev_tableOut (pc := 15) (tgt := 90) d_ga_pipeOf_15 (by omega) (by decide) ?_
      refine ev_bipush (v := (-5)) (pc := 90) d_ga_pipeOf_90 kc_b_m5 ?_
      exact ev_iret (pc := 92) ⟨Nat.le_of_ble_eq_true rfl, Nat.le_of_ble_eq_true rfl⟩ d_ga_pipeOf_92 rfl (vp_nar_int _) h_4
    · match k, hk, c_9 with
      | 0, _, c_9 =>
        have c_9e : x2 = 0 := gp_eqi (c_9.trans (by decide : (0 : Int) + ((0 : Nat) : Int) = 0)) (by decide)
        have h_5 := h_2.2.1 c_9e
        refine ev_tableIn (pc := 15) (off := 29) (tgt := 44) d_ga_pipeOf_15 (by rw [c_9e]; decide) (by rw [c_9e]; decide) (by rw [c_9e]; decide) (by decide) ?_
        refine ev_aload_n (x := 0) (pc := 44) d_ga_pipeOf_44 rfl ?_
        refine ev_getR (pc := 45) d_ga_pipeOf_45 f_ga_10 (ly_at hX 0 rfl) gg_11 rfl (ly_rf hX 0 0 rfl) ?_
        refine ev_getR (pc := 48) d_ga_pipeOf_48 f_ga_122 (ly_at hX 1 rfl) gg_5 rfl (ly_rf hX 1 2 rfl) ?_
        refine ev_iload_n (x := x1) (pc := 51) d_ga_pipeOf_51 rfl ?_
        refine ev_ialdJ (v := (gI X 2 (Int32.toNatClampNeg x1))) (pc := 52) d_ga_pipeOf_52 (ly_at hX 2 rfl) h_5.1 rfl ?_
        exact ev_iret (pc := 53) ⟨Nat.le_of_ble_eq_true rfl, Nat.le_of_ble_eq_true rfl⟩ d_ga_pipeOf_53 rfl (vp_nar_int _) h_5.2
      | 1, _, c_9 =>
        have c_9e : x2 = 1 := gp_eqi (c_9.trans (by decide : (0 : Int) + ((1 : Nat) : Int) = 1)) (by decide)
        have h_6 := h_2.2.2.1 c_9e
        refine ev_tableIn (pc := 15) (off := 39) (tgt := 54) d_ga_pipeOf_15 (by rw [c_9e]; decide) (by rw [c_9e]; decide) (by rw [c_9e]; decide) (by decide) ?_
        refine ev_aload_n (x := 0) (pc := 54) d_ga_pipeOf_54 rfl ?_
        refine ev_getR (pc := 55) d_ga_pipeOf_55 f_ga_10 (ly_at hX 0 rfl) gg_11 rfl (ly_rf hX 0 0 rfl) ?_
        refine ev_getR (pc := 58) d_ga_pipeOf_58 f_ga_125 (ly_at hX 1 rfl) gg_5 rfl (ly_rf hX 1 3 rfl) ?_
        refine ev_iload_n (x := x1) (pc := 61) d_ga_pipeOf_61 rfl ?_
        refine ev_ialdJ (v := (gI X 3 (Int32.toNatClampNeg x1))) (pc := 62) d_ga_pipeOf_62 (ly_at hX 3 rfl) h_6.1 rfl ?_
        exact ev_iret (pc := 63) ⟨Nat.le_of_ble_eq_true rfl, Nat.le_of_ble_eq_true rfl⟩ d_ga_pipeOf_63 rfl (vp_nar_int _) h_6.2
      | 2, _, c_9 =>
        have c_9e : x2 = 2 := gp_eqi (c_9.trans (by decide : (0 : Int) + ((2 : Nat) : Int) = 2)) (by decide)
        have h_7 := h_2.2.2.2.1 c_9e
        refine ev_tableIn (pc := 15) (off := 49) (tgt := 64) d_ga_pipeOf_15 (by rw [c_9e]; decide) (by rw [c_9e]; decide) (by rw [c_9e]; decide) (by decide) ?_
        refine ev_aload_n (x := 0) (pc := 64) d_ga_pipeOf_64 rfl ?_
        refine ev_getR (pc := 65) d_ga_pipeOf_65 f_ga_10 (ly_at hX 0 rfl) gg_11 rfl (ly_rf hX 0 0 rfl) ?_
        refine ev_getR (pc := 68) d_ga_pipeOf_68 f_ga_108 (ly_at hX 1 rfl) gg_5 rfl (ly_rf hX 1 4 rfl) ?_
        refine ev_iload_n (x := x1) (pc := 71) d_ga_pipeOf_71 rfl ?_
        refine ev_zaldJ (v := (gI X 4 (Int32.toNatClampNeg x1))) (pc := 72) d_ga_pipeOf_72 (ly_at hX 4 rfl) h_7.1 rfl ?_
        refine ev_callS (z := m_ga_flag) (as := [.int (gI X 4 (Int32.toNatClampNeg x1))]) (rest := []) (pc := 73) d_ga_pipeOf_73 l_ga_115 i_ga_flag o_ga_flag rfl rfl (Nat.le_of_ble_eq_true rfl) rfl (Nat.le_of_ble_eq_true rfl) ⟨Nat.le_of_ble_eq_true rfl, Nat.le_of_ble_eq_true rfl⟩ (s_ga_flag hX (gI X 4 (Int32.toNatClampNeg x1))) (fun r X1 hq => ?_)
        obtain ⟨rfl, rfl⟩ := hq
        show Ev E m_ga_pipeOf 76 [(0, .ref 0), (1, .int x1), (2, .int x2)] [.int (bz (!decide ((gI X 4 (Int32.toNatClampNeg x1)) = 0)))] X (0, 0) Q
        exact ev_iret (pc := 76) ⟨Nat.le_of_ble_eq_true rfl, Nat.le_of_ble_eq_true rfl⟩ d_ga_pipeOf_76 rfl (vp_nar_int _) h_7.2
      | 3, _, c_9 =>
        have c_9e : x2 = 3 := gp_eqi (c_9.trans (by decide : (0 : Int) + ((3 : Nat) : Int) = 3)) (by decide)
        have h_8 := h_2.2.2.2.2 c_9e
        refine ev_tableIn (pc := 15) (off := 62) (tgt := 77) d_ga_pipeOf_15 (by rw [c_9e]; decide) (by rw [c_9e]; decide) (by rw [c_9e]; decide) (by decide) ?_
        refine ev_aload_n (x := 0) (pc := 77) d_ga_pipeOf_77 rfl ?_
        refine ev_getR (pc := 78) d_ga_pipeOf_78 f_ga_10 (ly_at hX 0 rfl) gg_11 rfl (ly_rf hX 0 0 rfl) ?_
        refine ev_getR (pc := 81) d_ga_pipeOf_81 f_ga_112 (ly_at hX 1 rfl) gg_5 rfl (ly_rf hX 1 5 rfl) ?_
        refine ev_iload_n (x := x1) (pc := 84) d_ga_pipeOf_84 rfl ?_
        refine ev_zaldJ (v := (gI X 5 (Int32.toNatClampNeg x1))) (pc := 85) d_ga_pipeOf_85 (ly_at hX 5 rfl) h_8.1 rfl ?_
        refine ev_callS (z := m_ga_flag) (as := [.int (gI X 5 (Int32.toNatClampNeg x1))]) (rest := []) (pc := 86) d_ga_pipeOf_86 l_ga_115 i_ga_flag o_ga_flag rfl rfl (Nat.le_of_ble_eq_true rfl) rfl (Nat.le_of_ble_eq_true rfl) ⟨Nat.le_of_ble_eq_true rfl, Nat.le_of_ble_eq_true rfl⟩ (s_ga_flag hX (gI X 5 (Int32.toNatClampNeg x1))) (fun r X1 hq => ?_)
        obtain ⟨rfl, rfl⟩ := hq
        show Ev E m_ga_pipeOf 89 [(0, .ref 0), (1, .int x1), (2, .int x2)] [.int (bz (!decide ((gI X 5 (Int32.toNatClampNeg x1)) = 0)))] X (0, 0) Q
        exact ev_iret (pc := 89) ⟨Nat.le_of_ble_eq_true rfl, Nat.le_of_ble_eq_true rfl⟩ d_ga_pipeOf_89 rfl (vp_nar_int _) h_8.2
      | k + 4, hk, _ => exact absurd hk (by omega)
  · have h_3 := hh.2 c_1
    refine ev_bipush (v := (-5)) (pc := 11) d_ga_pipeOf_11 kc_b_m5 ?_
    exact ev_iret (pc := 13) ⟨Nat.le_of_ble_eq_true rfl, Nat.le_of_ble_eq_true rfl⟩ d_ga_pipeOf_13 rfl (vp_nar_int _) h_3
theorem b_ga_works_0 {E : gp_E} {S : gp_S} {X : gp_H} {Q : Option Value → gp_H → Prop} {x1 : Int32} {x2 : Int32} {x3 : Int32} (hX : Lay S X)  (hh : (((iw x1 0 ((gI X 1 0) - 1)) = true → (((iw x2 1 500) = false → Q (some (.int (-2))) X) ∧ ((iw x2 1 500) = true → (((iw x3 0 9999) = true → (((gI X 1 9) < 5 → (∃ Qz_13, Ev E m_ne_addWork 0 [(0, .ref 1), (1, .int x1), (2, .int x2), (3, .int x3)] [] X (0, 0) Qz_13 ∧ ∀ r X_16, Qz_13 r X_16 → ∃ v_21 : Int32, r = some (.int v_21) ∧ Lay S X_16 ∧ Q (some (.int v_21)) X_16)) ∧ (¬ (gI X 1 9) < 5 → Q (some (.int (-4))) X))) ∧ ((iw x3 0 9999) = false → Q (some (.int (-2))) X))))) ∧ ((iw x1 0 ((gI X 1 0) - 1)) = false → Q (some (.int (-1))) X))) : Ev E m_ga_works 0 [(0, .ref 0), (1, .int x1), (2, .int x2), (3, .int x3)] [] X (0, 0) Q := by
  refine ev_aload_n (x := 0) (pc := 0) d_ga_works_0 rfl ?_
  refine ev_getR (pc := 1) d_ga_works_1 f_ga_10 (ly_at hX 0 rfl) gg_11 rfl (ly_rf hX 0 0 rfl) ?_
  refine ev_iload_n (x := x1) (pc := 4) d_ga_works_4 rfl ?_
  refine ev_callV (z := m_ne_hasKnot) (as := [.int x1]) (rest := []) (pc := 5) d_ga_works_5 (ly_at hX 1 rfl) lt13_5 rfl l_ga_91 i_ne_hasKnot v_ne_hasKnot o_ne_hasKnot rfl rfl (Nat.le_of_ble_eq_true rfl) rfl (Nat.le_of_ble_eq_true rfl) ⟨Nat.le_of_ble_eq_true rfl, Nat.le_of_ble_eq_true rfl⟩ (s_ne_hasKnot hX x1 ) (fun r X1 hq => ?_)
  obtain ⟨rfl, rfl⟩ := hq
  show Ev E m_ga_works 8 [(0, .ref 0), (1, .int x1), (2, .int x2), (3, .int x3)] [.int (bz (iw x1 0 ((gI X 1 0) - 1)))] X (0, 0) Q
  refine ev_ifz_ne (pc := 8) (tgt := 13) d_ga_works_8 (by decide) (fun c_1 => ?_) (fun c_1 => ?_)
  · have h_2 := hh.1 c_1
    refine ev_iload_n (x := x2) (pc := 13) d_ga_works_13 rfl ?_
    refine ev_iconst (v := 1) (pc := 14) d_ga_works_14 kc_i_1 ?_
    refine ev_sipush (v := 500) (pc := 15) d_ga_works_15 kc_s_500 ?_
    refine ev_callS (z := m_ga_isWithin) (as := [.int x2, .int 1, .int 500]) (rest := []) (pc := 18) d_ga_works_18 l_ga_128 i_ga_isWithin o_ga_isWithin rfl rfl (Nat.le_of_ble_eq_true rfl) rfl (Nat.le_of_ble_eq_true rfl) ⟨Nat.le_of_ble_eq_true rfl, Nat.le_of_ble_eq_true rfl⟩ (s_ga_isWithin hX x2 1 500) (fun r X1 hq => ?_)
    obtain ⟨rfl, rfl⟩ := hq
    show Ev E m_ga_works 21 [(0, .ref 0), (1, .int x1), (2, .int x2), (3, .int x3)] [.int (bz (iw x2 1 500))] X (0, 0) Q
    refine ev_ifz_eq (pc := 21) (tgt := 35) d_ga_works_21 (by decide) (fun c_4 => ?_) (fun c_4 => ?_)
    · have h_5 := h_2.1 c_4
      refine ev_bipush (v := (-2)) (pc := 35) d_ga_works_35 kc_b_m2 ?_
      exact ev_iret (pc := 37) ⟨Nat.le_of_ble_eq_true rfl, Nat.le_of_ble_eq_true rfl⟩ d_ga_works_37 rfl (vp_nar_int _) h_5
    · have h_6 := h_2.2 c_4
      refine ev_iload_n (x := x3) (pc := 24) d_ga_works_24 rfl ?_
      refine ev_iconst (v := 0) (pc := 25) d_ga_works_25 kc_i_0 ?_
      refine ev_sipush (v := 9999) (pc := 26) d_ga_works_26 kc_s_9999 ?_
      refine ev_callS (z := m_ga_isWithin) (as := [.int x3, .int 0, .int 9999]) (rest := []) (pc := 29) d_ga_works_29 l_ga_128 i_ga_isWithin o_ga_isWithin rfl rfl (Nat.le_of_ble_eq_true rfl) rfl (Nat.le_of_ble_eq_true rfl) ⟨Nat.le_of_ble_eq_true rfl, Nat.le_of_ble_eq_true rfl⟩ (s_ga_isWithin hX x3 0 9999) (fun r X1 hq => ?_)
      obtain ⟨rfl, rfl⟩ := hq
      show Ev E m_ga_works 32 [(0, .ref 0), (1, .int x1), (2, .int x2), (3, .int x3)] [.int (bz (iw x3 0 9999))] X (0, 0) Q
      refine ev_ifz_ne (pc := 32) (tgt := 38) d_ga_works_32 (by decide) (fun c_7 => ?_) (fun c_7 => ?_)
      · have h_8 := h_6.1 c_7
        refine ev_aload_n (x := 0) (pc := 38) d_ga_works_38 rfl ?_
        refine ev_getR (pc := 39) d_ga_works_39 f_ga_10 (ly_at hX 0 rfl) gg_11 rfl (ly_rf hX 0 0 rfl) ?_
        refine ev_getJ (v := (gI X 1 9)) (pc := 42) d_ga_works_42 f_ga_132 (ly_at hX 1 rfl) gg_5 rfl rfl ?_
        refine ev_iconst (v := 5) (pc := 45) d_ga_works_45 kc_i_5 ?_
        refine ev_icmp_lt (pc := 46) (tgt := 52) d_ga_works_46 (by decide) (fun c_10 => ?_) (fun c_10 => ?_)
        · have h_11 := h_8.1 c_10
          refine ev_aload_n (x := 0) (pc := 52) d_ga_works_52 rfl ?_
          refine ev_getR (pc := 53) d_ga_works_53 f_ga_10 (ly_at hX 0 rfl) gg_11 rfl (ly_rf hX 0 0 rfl) ?_
          refine ev_iload_n (x := x1) (pc := 56) d_ga_works_56 rfl ?_
          refine ev_iload_n (x := x2) (pc := 57) d_ga_works_57 rfl ?_
          refine ev_iload_n (x := x3) (pc := 58) d_ga_works_58 rfl ?_
          obtain ⟨Qz_13, hc_14, hk_15⟩ := h_11
          refine ev_callV (z := m_ne_addWork) (as := [.int x1, .int x2, .int x3]) (rest := []) (pc := 59) d_ga_works_59 (ly_at hX 1 rfl) lt13_5 rfl l_ga_135 i_ne_addWork v_ne_addWork o_ne_addWork rfl rfl (Nat.le_of_ble_eq_true rfl) rfl (Nat.le_of_ble_eq_true rfl) ⟨Nat.le_of_ble_eq_true rfl, Nat.le_of_ble_eq_true rfl⟩ hc_14 (fun r_17 X_16 hq_18 => ?_)
          obtain ⟨v_21, rfl, hX_20, h_19⟩ := hk_15 _ _ hq_18
          show Ev E m_ga_works 62 [(0, .ref 0), (1, .int x1), (2, .int x2), (3, .int x3)] [.int v_21] X_16 (0, 0) Q
          exact ev_iret (pc := 62) ⟨Nat.le_of_ble_eq_true rfl, Nat.le_of_ble_eq_true rfl⟩ d_ga_works_62 rfl (vp_nar_int _) h_19
        · have h_12 := h_8.2 c_10
          refine ev_bipush (v := (-4)) (pc := 49) d_ga_works_49 kc_b_m4 ?_
          exact ev_iret (pc := 51) ⟨Nat.le_of_ble_eq_true rfl, Nat.le_of_ble_eq_true rfl⟩ d_ga_works_51 rfl (vp_nar_int _) h_12
      · have h_9 := h_6.2 c_7
        refine ev_bipush (v := (-2)) (pc := 35) d_ga_works_35 kc_b_m2 ?_
        exact ev_iret (pc := 37) ⟨Nat.le_of_ble_eq_true rfl, Nat.le_of_ble_eq_true rfl⟩ d_ga_works_37 rfl (vp_nar_int _) h_9
  · have h_3 := hh.2 c_1
    refine ev_iconst (v := (-1)) (pc := 11) d_ga_works_11 kc_i_m1 ?_
    exact ev_iret (pc := 12) ⟨Nat.le_of_ble_eq_true rfl, Nat.le_of_ble_eq_true rfl⟩ d_ga_works_12 rfl (vp_nar_int _) h_3
theorem b_ga_close_0 {E : gp_E} {S : gp_S} {X : gp_H} {Q : Option Value → gp_H → Prop} {x1 : Int32} (hX : Lay S X)  (hh : (((iw x1 0 ((gI X 1 9) - 1)) = true → (vp_in x1 5 ∧ ((¬ (gI X 11 (Int32.toNatClampNeg x1)) = 0 → Q (some (.int 1)) (gp_sI X 11 (Int32.toNatClampNeg x1) 0)) ∧ ((gI X 11 (Int32.toNatClampNeg x1)) = 0 → Q (some (.int (-3))) X)))) ∧ ((iw x1 0 ((gI X 1 9) - 1)) = false → Q (some (.int (-1))) X))) : Ev E m_ga_close 0 [(0, .ref 0), (1, .int x1)] [] X (0, 0) Q := by
  refine ev_aload_n (x := 0) (pc := 0) d_ga_close_0 rfl ?_
  refine ev_getR (pc := 1) d_ga_close_1 f_ga_10 (ly_at hX 0 rfl) gg_11 rfl (ly_rf hX 0 0 rfl) ?_
  refine ev_iload_n (x := x1) (pc := 4) d_ga_close_4 rfl ?_
  refine ev_callV (z := m_ne_hasWork) (as := [.int x1]) (rest := []) (pc := 5) d_ga_close_5 (ly_at hX 1 rfl) lt13_5 rfl l_ga_139 i_ne_hasWork v_ne_hasWork o_ne_hasWork rfl rfl (Nat.le_of_ble_eq_true rfl) rfl (Nat.le_of_ble_eq_true rfl) ⟨Nat.le_of_ble_eq_true rfl, Nat.le_of_ble_eq_true rfl⟩ (s_ne_hasWork hX x1 ) (fun r X1 hq => ?_)
  obtain ⟨rfl, rfl⟩ := hq
  show Ev E m_ga_close 8 [(0, .ref 0), (1, .int x1)] [.int (bz (iw x1 0 ((gI X 1 9) - 1)))] X (0, 0) Q
  refine ev_ifz_ne (pc := 8) (tgt := 13) d_ga_close_8 (by decide) (fun c_1 => ?_) (fun c_1 => ?_)
  · have h_2 := hh.1 c_1
    refine ev_aload_n (x := 0) (pc := 13) d_ga_close_13 rfl ?_
    refine ev_getR (pc := 14) d_ga_close_14 f_ga_10 (ly_at hX 0 rfl) gg_11 rfl (ly_rf hX 0 0 rfl) ?_
    refine ev_getR (pc := 17) d_ga_close_17 f_ga_142 (ly_at hX 1 rfl) gg_5 rfl (ly_rf hX 1 13 rfl) ?_
    refine ev_iload_n (x := x1) (pc := 20) d_ga_close_20 rfl ?_
    refine ev_zaldJ (v := (gI X 11 (Int32.toNatClampNeg x1))) (pc := 21) d_ga_close_21 (ly_at hX 11 rfl) h_2.1 rfl ?_
    refine ev_if_ne (pc := 22) (tgt := 28) d_ga_close_22 (by decide) (fun c_4 => ?_) (fun c_4 => ?_)
    · have h_5 := h_2.2.1 c_4
      refine ev_aload_n (x := 0) (pc := 28) d_ga_close_28 rfl ?_
      refine ev_getR (pc := 29) d_ga_close_29 f_ga_10 (ly_at hX 0 rfl) gg_11 rfl (ly_rf hX 0 0 rfl) ?_
      refine ev_getR (pc := 32) d_ga_close_32 f_ga_142 (ly_at hX 1 rfl) gg_5 rfl (ly_rf hX 1 13 rfl) ?_
      refine ev_iload_n (x := x1) (pc := 35) d_ga_close_35 rfl ?_
      refine ev_iconst (v := 0) (pc := 36) d_ga_close_36 kc_i_0 ?_
      refine ev_zast (pc := 37) d_ga_close_37 (ly_at hX 11 rfl) h_2.1 nb_0 ?_
      refine ev_iconst (v := 1) (pc := 38) d_ga_close_38 kc_i_1 ?_
      exact ev_iret (pc := 39) ⟨Nat.le_of_ble_eq_true rfl, Nat.le_of_ble_eq_true rfl⟩ d_ga_close_39 rfl (vp_nar_int _) h_5
    · have h_6 := h_2.2.2 c_4
      refine ev_bipush (v := (-3)) (pc := 25) d_ga_close_25 kc_b_m3 ?_
      exact ev_iret (pc := 27) ⟨Nat.le_of_ble_eq_true rfl, Nat.le_of_ble_eq_true rfl⟩ d_ga_close_27 rfl (vp_nar_int _) h_6
  · have h_3 := hh.2 c_1
    refine ev_iconst (v := (-1)) (pc := 11) d_ga_close_11 kc_i_m1 ?_
    exact ev_iret (pc := 12) ⟨Nat.le_of_ble_eq_true rfl, Nat.le_of_ble_eq_true rfl⟩ d_ga_close_12 rfl (vp_nar_int _) h_3
theorem b_ga_work_0 {E : gp_E} {S : gp_S} {X : gp_H} {Q : Option Value → gp_H → Prop} {x1 : Int32} {x2 : Int32} (hX : Lay S X)  (hh : (((iw x1 0 ((gI X 1 9) - 1)) = true → (((x2.toInt < 0 ∨ 4 < x2.toInt) → Q (some (.int (-5))) X) ∧ (x2 = 0 → (vp_in x1 5 ∧ Q (some (.int (gI X 8 (Int32.toNatClampNeg x1)))) X)) ∧ (x2 = 1 → (vp_in x1 5 ∧ Q (some (.int (gI X 9 (Int32.toNatClampNeg x1)))) X)) ∧ (x2 = 2 → (vp_in x1 5 ∧ Q (some (.int (gI X 10 (Int32.toNatClampNeg x1)))) X)) ∧ (x2 = 3 → (vp_in x1 5 ∧ Q (some (.int (bz (!decide ((gI X 11 (Int32.toNatClampNeg x1)) = 0))))) X)) ∧ (x2 = 4 → (vp_in x1 5 ∧ (((gI X 11 (Int32.toNatClampNeg x1)) = 0 → Q (some (.int (bz (!decide (0 = 0))))) X) ∧ (¬ (gI X 11 (Int32.toNatClampNeg x1)) = 0 → (∃ Qz_13, Ev E m_ga_isSpared 0 [(0, .ref 0), (1, .int x1)] [] X (0, 0) Qz_13 ∧ ∀ r X_16, Qz_13 r X_16 → ∃ v_21 : Int32, r = some (.int v_21) ∧ Lay S X_16 ∧ ((v_21 = 0 → Q (some (.int (bz (!decide (0 = 0))))) X_16) ∧ (¬ v_21 = 0 → Q (some (.int (bz (!decide (1 = 0))))) X_16))))))))) ∧ ((iw x1 0 ((gI X 1 9) - 1)) = false → Q (some (.int (-5))) X))) : Ev E m_ga_work 0 [(0, .ref 0), (1, .int x1), (2, .int x2)] [] X (0, 0) Q := by
  refine ev_aload_n (x := 0) (pc := 0) d_ga_work_0 rfl ?_
  refine ev_getR (pc := 1) d_ga_work_1 f_ga_10 (ly_at hX 0 rfl) gg_11 rfl (ly_rf hX 0 0 rfl) ?_
  refine ev_iload_n (x := x1) (pc := 4) d_ga_work_4 rfl ?_
  refine ev_callV (z := m_ne_hasWork) (as := [.int x1]) (rest := []) (pc := 5) d_ga_work_5 (ly_at hX 1 rfl) lt13_5 rfl l_ga_139 i_ne_hasWork v_ne_hasWork o_ne_hasWork rfl rfl (Nat.le_of_ble_eq_true rfl) rfl (Nat.le_of_ble_eq_true rfl) ⟨Nat.le_of_ble_eq_true rfl, Nat.le_of_ble_eq_true rfl⟩ (s_ne_hasWork hX x1 ) (fun r X1 hq => ?_)
  obtain ⟨rfl, rfl⟩ := hq
  show Ev E m_ga_work 8 [(0, .ref 0), (1, .int x1), (2, .int x2)] [.int (bz (iw x1 0 ((gI X 1 9) - 1)))] X (0, 0) Q
  refine ev_ifz_ne (pc := 8) (tgt := 14) d_ga_work_8 (by decide) (fun c_1 => ?_) (fun c_1 => ?_)
  · have h_2 := hh.1 c_1
    refine ev_iload_n (x := x2) (pc := 14) d_ga_work_14 rfl ?_
    rcases gp_tab (lo := 0) (n := 5) x2 with c_25 | ⟨k, hk, c_25⟩
    · have h_4 := h_2.1 (by omega)
      refine ev_tableOut (pc := 15) (tgt := 120) d_ga_work_15 (by omega) (by decide) ?_
      refine ev_bipush (v := (-5)) (pc := 120) d_ga_work_120 kc_b_m5 ?_
      exact ev_iret (pc := 122) ⟨Nat.le_of_ble_eq_true rfl, Nat.le_of_ble_eq_true rfl⟩ d_ga_work_122 rfl (vp_nar_int _) h_4
    · match k, hk, c_25 with
      | 0, _, c_25 =>
        have c_25e : x2 = 0 := gp_eqi (c_25.trans (by decide : (0 : Int) + ((0 : Nat) : Int) = 0)) (by decide)
        have h_5 := h_2.2.1 c_25e
        refine ev_tableIn (pc := 15) (off := 33) (tgt := 48) d_ga_work_15 (by rw [c_25e]; decide) (by rw [c_25e]; decide) (by rw [c_25e]; decide) (by decide) ?_
        refine ev_aload_n (x := 0) (pc := 48) d_ga_work_48 rfl ?_
        refine ev_getR (pc := 49) d_ga_work_49 f_ga_10 (ly_at hX 0 rfl) gg_11 rfl (ly_rf hX 0 0 rfl) ?_
        refine ev_getR (pc := 52) d_ga_work_52 f_ga_145 (ly_at hX 1 rfl) gg_5 rfl (ly_rf hX 1 10 rfl) ?_
        refine ev_iload_n (x := x1) (pc := 55) d_ga_work_55 rfl ?_
        refine ev_ialdJ (v := (gI X 8 (Int32.toNatClampNeg x1))) (pc := 56) d_ga_work_56 (ly_at hX 8 rfl) h_5.1 rfl ?_
        exact ev_iret (pc := 57) ⟨Nat.le_of_ble_eq_true rfl, Nat.le_of_ble_eq_true rfl⟩ d_ga_work_57 rfl (vp_nar_int _) h_5.2
      | 1, _, c_25 =>
        have c_25e : x2 = 1 := gp_eqi (c_25.trans (by decide : (0 : Int) + ((1 : Nat) : Int) = 1)) (by decide)
        have h_6 := h_2.2.2.1 c_25e
        refine ev_tableIn (pc := 15) (off := 43) (tgt := 58) d_ga_work_15 (by rw [c_25e]; decide) (by rw [c_25e]; decide) (by rw [c_25e]; decide) (by decide) ?_
        refine ev_aload_n (x := 0) (pc := 58) d_ga_work_58 rfl ?_
        refine ev_getR (pc := 59) d_ga_work_59 f_ga_10 (ly_at hX 0 rfl) gg_11 rfl (ly_rf hX 0 0 rfl) ?_
        refine ev_getR (pc := 62) d_ga_work_62 f_ga_148 (ly_at hX 1 rfl) gg_5 rfl (ly_rf hX 1 11 rfl) ?_
        refine ev_iload_n (x := x1) (pc := 65) d_ga_work_65 rfl ?_
        refine ev_ialdJ (v := (gI X 9 (Int32.toNatClampNeg x1))) (pc := 66) d_ga_work_66 (ly_at hX 9 rfl) h_6.1 rfl ?_
        exact ev_iret (pc := 67) ⟨Nat.le_of_ble_eq_true rfl, Nat.le_of_ble_eq_true rfl⟩ d_ga_work_67 rfl (vp_nar_int _) h_6.2
      | 2, _, c_25 =>
        have c_25e : x2 = 2 := gp_eqi (c_25.trans (by decide : (0 : Int) + ((2 : Nat) : Int) = 2)) (by decide)
        have h_7 := h_2.2.2.2.1 c_25e
        refine ev_tableIn (pc := 15) (off := 53) (tgt := 68) d_ga_work_15 (by rw [c_25e]; decide) (by rw [c_25e]; decide) (by rw [c_25e]; decide) (by decide) ?_
        refine ev_aload_n (x := 0) (pc := 68) d_ga_work_68 rfl ?_
        refine ev_getR (pc := 69) d_ga_work_69 f_ga_10 (ly_at hX 0 rfl) gg_11 rfl (ly_rf hX 0 0 rfl) ?_
        refine ev_getR (pc := 72) d_ga_work_72 f_ga_151 (ly_at hX 1 rfl) gg_5 rfl (ly_rf hX 1 12 rfl) ?_
        refine ev_iload_n (x := x1) (pc := 75) d_ga_work_75 rfl ?_
        refine ev_ialdJ (v := (gI X 10 (Int32.toNatClampNeg x1))) (pc := 76) d_ga_work_76 (ly_at hX 10 rfl) h_7.1 rfl ?_
        exact ev_iret (pc := 77) ⟨Nat.le_of_ble_eq_true rfl, Nat.le_of_ble_eq_true rfl⟩ d_ga_work_77 rfl (vp_nar_int _) h_7.2
      | 3, _, c_25 =>
        have c_25e : x2 = 3 := gp_eqi (c_25.trans (by decide : (0 : Int) + ((3 : Nat) : Int) = 3)) (by decide)
        have h_8 := h_2.2.2.2.2.1 c_25e
        refine ev_tableIn (pc := 15) (off := 63) (tgt := 78) d_ga_work_15 (by rw [c_25e]; decide) (by rw [c_25e]; decide) (by rw [c_25e]; decide) (by decide) ?_
        refine ev_aload_n (x := 0) (pc := 78) d_ga_work_78 rfl ?_
        refine ev_getR (pc := 79) d_ga_work_79 f_ga_10 (ly_at hX 0 rfl) gg_11 rfl (ly_rf hX 0 0 rfl) ?_
        refine ev_getR (pc := 82) d_ga_work_82 f_ga_142 (ly_at hX 1 rfl) gg_5 rfl (ly_rf hX 1 13 rfl) ?_
        refine ev_iload_n (x := x1) (pc := 85) d_ga_work_85 rfl ?_
        refine ev_zaldJ (v := (gI X 11 (Int32.toNatClampNeg x1))) (pc := 86) d_ga_work_86 (ly_at hX 11 rfl) h_8.1 rfl ?_
        refine ev_callS (z := m_ga_flag) (as := [.int (gI X 11 (Int32.toNatClampNeg x1))]) (rest := []) (pc := 87) d_ga_work_87 l_ga_115 i_ga_flag o_ga_flag rfl rfl (Nat.le_of_ble_eq_true rfl) rfl (Nat.le_of_ble_eq_true rfl) ⟨Nat.le_of_ble_eq_true rfl, Nat.le_of_ble_eq_true rfl⟩ (s_ga_flag hX (gI X 11 (Int32.toNatClampNeg x1))) (fun r X1 hq => ?_)
        obtain ⟨rfl, rfl⟩ := hq
        show Ev E m_ga_work 90 [(0, .ref 0), (1, .int x1), (2, .int x2)] [.int (bz (!decide ((gI X 11 (Int32.toNatClampNeg x1)) = 0)))] X (0, 0) Q
        exact ev_iret (pc := 90) ⟨Nat.le_of_ble_eq_true rfl, Nat.le_of_ble_eq_true rfl⟩ d_ga_work_90 rfl (vp_nar_int _) h_8.2
      | 4, _, c_25 =>
        have c_25e : x2 = 4 := gp_eqi (c_25.trans (by decide : (0 : Int) + ((4 : Nat) : Int) = 4)) (by decide)
        have h_9 := h_2.2.2.2.2.2 c_25e
        refine ev_tableIn (pc := 15) (off := 76) (tgt := 91) d_ga_work_15 (by rw [c_25e]; decide) (by rw [c_25e]; decide) (by rw [c_25e]; decide) (by decide) ?_
        refine ev_aload_n (x := 0) (pc := 91) d_ga_work_91 rfl ?_
        refine ev_getR (pc := 92) d_ga_work_92 f_ga_10 (ly_at hX 0 rfl) gg_11 rfl (ly_rf hX 0 0 rfl) ?_
        refine ev_getR (pc := 95) d_ga_work_95 f_ga_142 (ly_at hX 1 rfl) gg_5 rfl (ly_rf hX 1 13 rfl) ?_
        refine ev_iload_n (x := x1) (pc := 98) d_ga_work_98 rfl ?_
        refine ev_zaldJ (v := (gI X 11 (Int32.toNatClampNeg x1))) (pc := 99) d_ga_work_99 (ly_at hX 11 rfl) h_9.1 rfl ?_
        refine ev_if_eq (pc := 100) (tgt := 115) d_ga_work_100 (by decide) (fun c_10 => ?_) (fun c_10 => ?_)
        · have h_11 := h_9.2.1 c_10
          refine ev_iconst (v := 0) (pc := 115) d_ga_work_115 kc_i_0 ?_
          refine ev_callS (z := m_ga_flag) (as := [.int 0]) (rest := []) (pc := 116) d_ga_work_116 l_ga_115 i_ga_flag o_ga_flag rfl rfl (Nat.le_of_ble_eq_true rfl) rfl (Nat.le_of_ble_eq_true rfl) ⟨Nat.le_of_ble_eq_true rfl, Nat.le_of_ble_eq_true rfl⟩ (s_ga_flag hX 0) (fun r X1 hq => ?_)
          obtain ⟨rfl, rfl⟩ := hq
          show Ev E m_ga_work 119 [(0, .ref 0), (1, .int x1), (2, .int x2)] [.int (bz (!decide (0 = 0)))] X (0, 0) Q
          exact ev_iret (pc := 119) ⟨Nat.le_of_ble_eq_true rfl, Nat.le_of_ble_eq_true rfl⟩ d_ga_work_119 rfl (vp_nar_int _) h_11
        · have h_12 := h_9.2.2 c_10
          refine ev_aload_n (x := 0) (pc := 103) d_ga_work_103 rfl ?_
          refine ev_iload_n (x := x1) (pc := 104) d_ga_work_104 rfl ?_
          obtain ⟨Qz_13, hc_14, hk_15⟩ := h_12
          refine ev_callV (z := m_ga_isSpared) (as := [.int x1]) (rest := []) (pc := 105) d_ga_work_105 (ly_at hX 0 rfl) lt13_11 rfl l_ga_154 i_ga_isSpared v_ga_isSpared o_ga_isSpared rfl rfl (Nat.le_of_ble_eq_true rfl) rfl (Nat.le_of_ble_eq_true rfl) ⟨Nat.le_of_ble_eq_true rfl, Nat.le_of_ble_eq_true rfl⟩ hc_14 (fun r_17 X_16 hq_18 => ?_)
          obtain ⟨v_21, rfl, hX_20, h_19⟩ := hk_15 _ _ hq_18
          show Ev E m_ga_work 108 [(0, .ref 0), (1, .int x1), (2, .int x2)] [.int v_21] X_16 (0, 0) Q
          refine ev_if_eq (pc := 108) (tgt := 115) d_ga_work_108 (by decide) (fun c_22 => ?_) (fun c_22 => ?_)
          · have h_23 := h_19.1 c_22
            refine ev_iconst (v := 0) (pc := 115) d_ga_work_115 kc_i_0 ?_
            refine ev_callS (z := m_ga_flag) (as := [.int 0]) (rest := []) (pc := 116) d_ga_work_116 l_ga_115 i_ga_flag o_ga_flag rfl rfl (Nat.le_of_ble_eq_true rfl) rfl (Nat.le_of_ble_eq_true rfl) ⟨Nat.le_of_ble_eq_true rfl, Nat.le_of_ble_eq_true rfl⟩ (s_ga_flag hX_20 0) (fun r X1 hq => ?_)
            obtain ⟨rfl, rfl⟩ := hq
            show Ev E m_ga_work 119 [(0, .ref 0), (1, .int x1), (2, .int x2)] [.int (bz (!decide (0 = 0)))] X_16 (0, 0) Q
            exact ev_iret (pc := 119) ⟨Nat.le_of_ble_eq_true rfl, Nat.le_of_ble_eq_true rfl⟩ d_ga_work_119 rfl (vp_nar_int _) h_23
          · have h_24 := h_19.2 c_22
            refine ev_iconst (v := 1) (pc := 111) d_ga_work_111 kc_i_1 ?_
            refine ev_goto (pc := 112) (tgt := 116) d_ga_work_112 (by decide) ?_
            refine ev_callS (z := m_ga_flag) (as := [.int 1]) (rest := []) (pc := 116) d_ga_work_116 l_ga_115 i_ga_flag o_ga_flag rfl rfl (Nat.le_of_ble_eq_true rfl) rfl (Nat.le_of_ble_eq_true rfl) ⟨Nat.le_of_ble_eq_true rfl, Nat.le_of_ble_eq_true rfl⟩ (s_ga_flag hX_20 1) (fun r X1 hq => ?_)
            obtain ⟨rfl, rfl⟩ := hq
            show Ev E m_ga_work 119 [(0, .ref 0), (1, .int x1), (2, .int x2)] [.int (bz (!decide (1 = 0)))] X_16 (0, 0) Q
            exact ev_iret (pc := 119) ⟨Nat.le_of_ble_eq_true rfl, Nat.le_of_ble_eq_true rfl⟩ d_ga_work_119 rfl (vp_nar_int _) h_24
      | k + 5, hk, _ => exact absurd hk (by omega)
  · have h_3 := hh.2 c_1
    refine ev_bipush (v := (-5)) (pc := 11) d_ga_work_11 kc_b_m5 ?_
    exact ev_iret (pc := 13) ⟨Nat.le_of_ble_eq_true rfl, Nat.le_of_ble_eq_true rfl⟩ d_ga_work_13 rfl (vp_nar_int _) h_3
theorem b_ga_isSpared_0 {E : gp_E} {S : gp_S} {X : gp_H} {Q : Option Value → gp_H → Prop} {x1 : Int32} (hX : Lay S X)  (hh : (vp_in x1 5 ∧ (∃ Qz_1, Ev E m_ne_areaOf 0 [(0, .ref 1), (1, .int (gI X 8 (Int32.toNatClampNeg x1)))] [] X (0, 0) Qz_1 ∧ ∀ r X_4, Qz_1 r X_4 → ∃ v_9 : Int32, r = some (.int v_9) ∧ Lay S X_4 ∧ (∃ Qz_10, Ev E m_ne_makeIn 0 [(0, .ref 1), (1, .int v_9)] [] X_4 (0, 0) Qz_10 ∧ ∀ r X_13, Qz_10 r X_13 → ∃ v_18 : Int32, r = some (.int v_18) ∧ Lay S X_13 ∧ (∃ Qz_19, Ev E m_ga_useIn 0 [(0, .ref 0), (1, .int v_9), (2, .int 1)] [] X_13 (0, 0) Qz_19 ∧ ∀ r X_22, Qz_19 r X_22 → ∃ v_27 : Int32, r = some (.int v_27) ∧ Lay S X_22 ∧ (((v_18 - (gI X_13 9 (Int32.toNatClampNeg x1))) < v_27 → Q (some (.int 0)) X_22) ∧ (¬ (v_18 - (gI X_13 9 (Int32.toNatClampNeg x1))) < v_27 → Q (some (.int 1)) X_22))))))) : Ev E m_ga_isSpared 0 [(0, .ref 0), (1, .int x1)] [] X (0, 0) Q := by
  refine ev_aload_n (x := 0) (pc := 0) d_ga_isSpared_0 rfl ?_
  refine ev_getR (pc := 1) d_ga_isSpared_1 f_ga_10 (ly_at hX 0 rfl) gg_11 rfl (ly_rf hX 0 0 rfl) ?_
  refine ev_aload_n (x := 0) (pc := 4) d_ga_isSpared_4 rfl ?_
  refine ev_getR (pc := 5) d_ga_isSpared_5 f_ga_10 (ly_at hX 0 rfl) gg_11 rfl (ly_rf hX 0 0 rfl) ?_
  refine ev_getR (pc := 8) d_ga_isSpared_8 f_ga_145 (ly_at hX 1 rfl) gg_5 rfl (ly_rf hX 1 10 rfl) ?_
  refine ev_iload_n (x := x1) (pc := 11) d_ga_isSpared_11 rfl ?_
  refine ev_ialdJ (v := (gI X 8 (Int32.toNatClampNeg x1))) (pc := 12) d_ga_isSpared_12 (ly_at hX 8 rfl) hh.1 rfl ?_
  obtain ⟨Qz_1, hc_2, hk_3⟩ := hh.2
  refine ev_callV (z := m_ne_areaOf) (as := [.int (gI X 8 (Int32.toNatClampNeg x1))]) (rest := []) (pc := 13) d_ga_isSpared_13 (ly_at hX 1 rfl) lt13_5 rfl l_ga_170 i_ne_areaOf v_ne_areaOf o_ne_areaOf rfl rfl (Nat.le_of_ble_eq_true rfl) rfl (Nat.le_of_ble_eq_true rfl) ⟨Nat.le_of_ble_eq_true rfl, Nat.le_of_ble_eq_true rfl⟩ hc_2 (fun r_5 X_4 hq_6 => ?_)
  obtain ⟨v_9, rfl, hX_8, h_7⟩ := hk_3 _ _ hq_6
  show Ev E m_ga_isSpared 16 [(0, .ref 0), (1, .int x1)] [.int v_9] X_4 (0, 0) Q
  refine ev_istore_n (L2 := [(0, .ref 0), (1, .int x1), (2, .int v_9)]) (pc := 16) d_ga_isSpared_16 rfl (Nat.le_of_ble_eq_true rfl) rfl ?_
  refine ev_aload_n (x := 0) (pc := 17) d_ga_isSpared_17 rfl ?_
  refine ev_getR (pc := 18) d_ga_isSpared_18 f_ga_10 (ly_at hX_8 0 rfl) gg_11 rfl (ly_rf hX_8 0 0 rfl) ?_
  refine ev_iload_n (x := v_9) (pc := 21) d_ga_isSpared_21 rfl ?_
  obtain ⟨Qz_10, hc_11, hk_12⟩ := h_7
  refine ev_callV (z := m_ne_makeIn) (as := [.int v_9]) (rest := []) (pc := 22) d_ga_isSpared_22 (ly_at hX_8 1 rfl) lt13_5 rfl l_ga_174 i_ne_makeIn v_ne_makeIn o_ne_makeIn rfl rfl (Nat.le_of_ble_eq_true rfl) rfl (Nat.le_of_ble_eq_true rfl) ⟨Nat.le_of_ble_eq_true rfl, Nat.le_of_ble_eq_true rfl⟩ hc_11 (fun r_14 X_13 hq_15 => ?_)
  obtain ⟨v_18, rfl, hX_17, h_16⟩ := hk_12 _ _ hq_15
  show Ev E m_ga_isSpared 25 [(0, .ref 0), (1, .int x1), (2, .int v_9)] [.int v_18] X_13 (0, 0) Q
  refine ev_aload_n (x := 0) (pc := 25) d_ga_isSpared_25 rfl ?_
  refine ev_getR (pc := 26) d_ga_isSpared_26 f_ga_10 (ly_at hX_17 0 rfl) gg_11 rfl (ly_rf hX_17 0 0 rfl) ?_
  refine ev_getR (pc := 29) d_ga_isSpared_29 f_ga_148 (ly_at hX_17 1 rfl) gg_5 rfl (ly_rf hX_17 1 11 rfl) ?_
  refine ev_iload_n (x := x1) (pc := 32) d_ga_isSpared_32 rfl ?_
  refine ev_ialdJ (v := (gI X_13 9 (Int32.toNatClampNeg x1))) (pc := 33) d_ga_isSpared_33 (ly_at hX_17 9 rfl) hh.1 rfl ?_
  refine ev_isub (pc := 34) d_ga_isSpared_34 ?_
  refine ev_aload_n (x := 0) (pc := 35) d_ga_isSpared_35 rfl ?_
  refine ev_iload_n (x := v_9) (pc := 36) d_ga_isSpared_36 rfl ?_
  refine ev_iconst (v := 1) (pc := 37) d_ga_isSpared_37 kc_i_1 ?_
  obtain ⟨Qz_19, hc_20, hk_21⟩ := h_16
  refine ev_callV (z := m_ga_useIn) (as := [.int v_9, .int 1]) (rest := [.int (v_18 - (gI X_13 9 (Int32.toNatClampNeg x1)))]) (pc := 38) d_ga_isSpared_38 (ly_at hX_17 0 rfl) lt13_11 rfl l_ga_177 i_ga_useIn v_ga_useIn o_ga_useIn rfl rfl (Nat.le_of_ble_eq_true rfl) rfl (Nat.le_of_ble_eq_true rfl) ⟨Nat.le_of_ble_eq_true rfl, Nat.le_of_ble_eq_true rfl⟩ hc_20 (fun r_23 X_22 hq_24 => ?_)
  obtain ⟨v_27, rfl, hX_26, h_25⟩ := hk_21 _ _ hq_24
  show Ev E m_ga_isSpared 41 [(0, .ref 0), (1, .int x1), (2, .int v_9)] [.int v_27, .int (v_18 - (gI X_13 9 (Int32.toNatClampNeg x1)))] X_22 (0, 0) Q
  refine ev_icmp_lt (pc := 41) (tgt := 48) d_ga_isSpared_41 (by decide) (fun c_28 => ?_) (fun c_28 => ?_)
  · have h_29 := h_25.1 c_28
    refine ev_iconst (v := 0) (pc := 48) d_ga_isSpared_48 kc_i_0 ?_
    exact ev_iret (pc := 49) ⟨Nat.le_of_ble_eq_true rfl, Nat.le_of_ble_eq_true rfl⟩ d_ga_isSpared_49 rfl nb_0 h_29
  · have h_30 := h_25.2 c_28
    refine ev_iconst (v := 1) (pc := 44) d_ga_isSpared_44 kc_i_1 ?_
    refine ev_goto (pc := 45) (tgt := 49) d_ga_isSpared_45 (by decide) ?_
    exact ev_iret (pc := 49) ⟨Nat.le_of_ble_eq_true rfl, Nat.le_of_ble_eq_true rfl⟩ d_ga_isSpared_49 rfl nb_1 h_30
theorem b_ga_lowestIn_0 {E : gp_E} {S : gp_S} {X : gp_H} {Q : Option Value → gp_H → Prop} {x0 : Int32} (hX : Lay S X)  (hh : (∃ Qz_1, Ev E m_in_bitCount 0 [(0, .int ((x0 &&& (-x0)) - 1))] [] X (0, 0) Qz_1 ∧ ∀ r X_4, Qz_1 r X_4 → ∃ v_9 : Int32, r = some (.int v_9) ∧ Lay S X_4 ∧ Q (some (.int v_9)) X_4)) : Ev E m_ga_lowestIn 0 [(0, .int x0)] [] X (0, 0) Q := by
  refine ev_iload_n (x := x0) (pc := 0) d_ga_lowestIn_0 rfl ?_
  refine ev_iload_n (x := x0) (pc := 1) d_ga_lowestIn_1 rfl ?_
  refine ev_ineg (pc := 2) d_ga_lowestIn_2 ?_
  refine ev_iand (pc := 3) d_ga_lowestIn_3 ?_
  refine ev_iconst (v := 1) (pc := 4) d_ga_lowestIn_4 kc_i_1 ?_
  refine ev_isub (pc := 5) d_ga_lowestIn_5 ?_
  obtain ⟨Qz_1, hc_2, hk_3⟩ := hh
  refine ev_callS (z := m_in_bitCount) (as := [.int ((x0 &&& (-x0)) - 1)]) (rest := []) (pc := 6) d_ga_lowestIn_6 l_ga_482 i_in_bitCount o_in_bitCount rfl rfl (Nat.le_of_ble_eq_true rfl) rfl (Nat.le_of_ble_eq_true rfl) ⟨Nat.le_of_ble_eq_true rfl, Nat.le_of_ble_eq_true rfl⟩ hc_2 (fun r_5 X_4 hq_6 => ?_)
  obtain ⟨v_9, rfl, hX_8, h_7⟩ := hk_3 _ _ hq_6
  show Ev E m_ga_lowestIn 9 [(0, .int x0)] [.int v_9] X_4 (0, 0) Q
  exact ev_iret (pc := 9) ⟨Nat.le_of_ble_eq_true rfl, Nat.le_of_ble_eq_true rfl⟩ d_ga_lowestIn_9 rfl (vp_nar_int _) h_7
theorem b_ga_useIn_0 {E : gp_E} {S : gp_S} {X : gp_H} {Q : Option Value → gp_H → Prop} {x1 : Int32} {x2 : Int32} (hX : Lay S X)  (hh : Ev E m_ga_useIn 5 [(0, .ref 0), (1, .int x1), (2, .int x2), (3, .int 0), (4, .int 0)] [] X (0, 0) Q) : Ev E m_ga_useIn 0 [(0, .ref 0), (1, .int x1), (2, .int x2)] [] X (0, 0) Q := by
  refine ev_iconst (v := 0) (pc := 0) d_ga_useIn_0 kc_i_0 ?_
  refine ev_istore_n (L2 := [(0, .ref 0), (1, .int x1), (2, .int x2), (3, .int 0)]) (pc := 1) d_ga_useIn_1 rfl (Nat.le_of_ble_eq_true rfl) rfl ?_
  refine ev_iconst (v := 0) (pc := 2) d_ga_useIn_2 kc_i_0 ?_
  refine ev_istore (L2 := [(0, .ref 0), (1, .int x1), (2, .int x2), (3, .int 0), (4, .int 0)]) (pc := 3) d_ga_useIn_3 rfl (Nat.le_of_ble_eq_true rfl) rfl ?_
  exact hh
theorem b_ga_useIn_5 {E : gp_E} {S : gp_S} {X : gp_H} {Q : Option Value → gp_H → Prop} {x1 : Int32} {x2 : Int32} {x3 : Int32} {x4 : Int32} (hX : Lay S X)  (hh : (((gI X 0 6) ≤ x4 → Q (some (.int x3)) X) ∧ (¬ (gI X 0 6) ≤ x4 → ((x2 = 0 → (vp_in x4 40 ∧ ∃ r_7 : Nat, X.2.2.1 16 (Int32.toNatClampNeg x4) = some r_7 ∧ gp_at X r_7 (3, 0) ∧ (((gI X r_7 4) = 2 → Ev E m_ga_useIn 58 [(0, .ref 0), (1, .int x1), (2, .int x2), (3, .int x3), (4, .int x4)] [.int 0] X (0, 0) Q) ∧ (¬ (gI X r_7 4) = 2 → Ev E m_ga_useIn 58 [(0, .ref 0), (1, .int x1), (2, .int x2), (3, .int x3), (4, .int x4)] [.int 1] X (0, 0) Q)))) ∧ (¬ x2 = 0 → (vp_in x4 40 ∧ ∃ r_15 : Nat, X.2.2.1 16 (Int32.toNatClampNeg x4) = some r_15 ∧ gp_at X r_15 (3, 0) ∧ ((¬ (gI X r_15 4) = 0 → Ev E m_ga_useIn 58 [(0, .ref 0), (1, .int x1), (2, .int x2), (3, .int x3), (4, .int x4)] [.int 0] X (0, 0) Q) ∧ ((gI X r_15 4) = 0 → Ev E m_ga_useIn 58 [(0, .ref 0), (1, .int x1), (2, .int x2), (3, .int x3), (4, .int x4)] [.int 1] X (0, 0) Q)))))))) : Ev E m_ga_useIn 5 [(0, .ref 0), (1, .int x1), (2, .int x2), (3, .int x3), (4, .int x4)] [] X (0, 0) Q := by
  refine ev_iload (x := x4) (pc := 5) d_ga_useIn_5 rfl ?_
  refine ev_aload_n (x := 0) (pc := 7) d_ga_useIn_7 rfl ?_
  refine ev_getJ (v := (gI X 0 6)) (pc := 8) d_ga_useIn_8 f_ga_198 (ly_at hX 0 rfl) gg_11 rfl rfl ?_
  refine ev_icmp_ge (pc := 11) (tgt := 101) d_ga_useIn_11 (by decide) (fun c_1 => ?_) (fun c_1 => ?_)
  · have h_2 := hh.1 c_1
    refine ev_iload_n (x := x3) (pc := 101) d_ga_useIn_101 rfl ?_
    exact ev_iret (pc := 102) ⟨Nat.le_of_ble_eq_true rfl, Nat.le_of_ble_eq_true rfl⟩ d_ga_useIn_102 rfl (vp_nar_int _) h_2
  · have h_3 := hh.2 c_1
    refine ev_iload_n (x := x2) (pc := 14) d_ga_useIn_14 rfl ?_
    refine ev_if_eq (pc := 15) (tgt := 39) d_ga_useIn_15 (by decide) (fun c_4 => ?_) (fun c_4 => ?_)
    · have h_5 := h_3.1 c_4
      refine ev_aload_n (x := 0) (pc := 39) d_ga_useIn_39 rfl ?_
      refine ev_getR (pc := 40) d_ga_useIn_40 f_ga_35 (ly_at hX 0 rfl) gg_11 rfl (ly_rf hX 0 5 rfl) ?_
      refine ev_iload (x := x4) (pc := 43) d_ga_useIn_43 rfl ?_
      obtain ⟨hv_10, r_7, hq_9, hb_8, h_11⟩ := h_5
      refine ev_ald4 (pc := 45) d_ga_useIn_45 (ly_at hX 16 rfl) hv_10 hq_9 ?_
      refine ev_getJ (v := (gI X r_7 4)) (pc := 46) d_ga_useIn_46 f_ga_249 hb_8 gg_3 rfl rfl ?_
      refine ev_iconst (v := 2) (pc := 49) d_ga_useIn_49 kc_i_2 ?_
      refine ev_icmp_eq (pc := 50) (tgt := 57) d_ga_useIn_50 (by decide) (fun c_12 => ?_) (fun c_12 => ?_)
      · have h_13 := h_11.1 c_12
        refine ev_iconst (v := 0) (pc := 57) d_ga_useIn_57 kc_i_0 ?_
        exact h_13
      · have h_14 := h_11.2 c_12
        refine ev_iconst (v := 1) (pc := 53) d_ga_useIn_53 kc_i_1 ?_
        refine ev_goto (pc := 54) (tgt := 58) d_ga_useIn_54 (by decide) ?_
        exact h_14
    · have h_6 := h_3.2 c_4
      refine ev_aload_n (x := 0) (pc := 18) d_ga_useIn_18 rfl ?_
      refine ev_getR (pc := 19) d_ga_useIn_19 f_ga_35 (ly_at hX 0 rfl) gg_11 rfl (ly_rf hX 0 5 rfl) ?_
      refine ev_iload (x := x4) (pc := 22) d_ga_useIn_22 rfl ?_
      obtain ⟨hv_18, r_15, hq_17, hb_16, h_19⟩ := h_6
      refine ev_ald4 (pc := 24) d_ga_useIn_24 (ly_at hX 16 rfl) hv_18 hq_17 ?_
      refine ev_getJ (v := (gI X r_15 4)) (pc := 25) d_ga_useIn_25 f_ga_249 hb_16 gg_3 rfl rfl ?_
      refine ev_if_ne (pc := 28) (tgt := 35) d_ga_useIn_28 (by decide) (fun c_20 => ?_) (fun c_20 => ?_)
      · have h_21 := h_19.1 c_20
        refine ev_iconst (v := 0) (pc := 35) d_ga_useIn_35 kc_i_0 ?_
        refine ev_goto (pc := 36) (tgt := 58) d_ga_useIn_36 (by decide) ?_
        exact h_21
      · have h_22 := h_19.2 c_20
        refine ev_iconst (v := 1) (pc := 31) d_ga_useIn_31 kc_i_1 ?_
        refine ev_goto (pc := 32) (tgt := 58) d_ga_useIn_32 (by decide) ?_
        exact h_22
theorem b_ga_useIn_58 {E : gp_E} {S : gp_S} {X : gp_H} {Q : Option Value → gp_H → Prop} {x1 : Int32} {x2 : Int32} {x3 : Int32} {x4 : Int32} {t0 : Int32} (hX : Lay S X)  (hh : ((t0 = 0 → Ev E m_ga_useIn 5 [(0, .ref 0), (1, .int x1), (2, .int x2), (3, .int x3), (4, .int (x4 + 1))] [] X (0, 0) Q) ∧ (¬ t0 = 0 → (vp_in x4 40 ∧ ∃ r_4 : Nat, X.2.2.1 16 (Int32.toNatClampNeg x4) = some r_4 ∧ gp_at X r_4 (3, 0) ∧ (((gb x1 (gI X r_4 0)) = false → Ev E m_ga_useIn 5 [(0, .ref 0), (1, .int x1), (2, .int x2), (3, .int x3), (4, .int (x4 + 1))] [] X (0, 0) Q) ∧ ((gb x1 (gI X r_4 0)) = true → (vp_in x4 40 ∧ ∃ r_12 : Nat, X.2.2.1 16 (Int32.toNatClampNeg x4) = some r_12 ∧ gp_at X r_12 (3, 0) ∧ Ev E m_ga_useIn 5 [(0, .ref 0), (1, .int x1), (2, .int x2), (3, .int (x3 + (gI X r_12 1))), (4, .int (x4 + 1))] [] X (0, 0) Q))))))) : Ev E m_ga_useIn 58 [(0, .ref 0), (1, .int x1), (2, .int x2), (3, .int x3), (4, .int x4)] [.int t0] X (0, 0) Q := by
  refine ev_istore (L2 := [(0, .ref 0), (1, .int x1), (2, .int x2), (3, .int x3), (4, .int x4), (5, .int t0)]) (pc := 58) d_ga_useIn_58 rfl (Nat.le_of_ble_eq_true rfl) rfl ?_
  refine ev_iload (x := t0) (pc := 60) d_ga_useIn_60 rfl ?_
  refine ev_if_eq (pc := 62) (tgt := 95) d_ga_useIn_62 (by decide) (fun c_1 => ?_) (fun c_1 => ?_)
  · have h_2 := hh.1 c_1
    refine ev_iinc (v := (x4 + 1)) (L2 := [(0, .ref 0), (1, .int x1), (2, .int x2), (3, .int x3), (4, .int (x4 + 1)), (5, .int t0)]) (pc := 95) d_ga_useIn_95 rfl (by rw [kc_i_1]) rfl (Nat.le_of_ble_eq_true rfl) rfl ?_
    refine ev_goto (pc := 98) (tgt := 5) d_ga_useIn_98 (by decide) ?_
    exact ev_sub [(0, .ref 0), (1, .int x1), (2, .int x2), (3, .int x3), (4, .int (x4 + 1))] (List.forall_mem_cons.mpr ⟨rfl, (List.forall_mem_cons.mpr ⟨rfl, (List.forall_mem_cons.mpr ⟨rfl, (List.forall_mem_cons.mpr ⟨rfl, (List.forall_mem_cons.mpr ⟨rfl, (fun _ h => nomatch h)⟩)⟩)⟩)⟩)⟩) h_2
  · have h_3 := hh.2 c_1
    refine ev_iload_n (x := x1) (pc := 65) d_ga_useIn_65 rfl ?_
    refine ev_aload_n (x := 0) (pc := 66) d_ga_useIn_66 rfl ?_
    refine ev_getR (pc := 67) d_ga_useIn_67 f_ga_35 (ly_at hX 0 rfl) gg_11 rfl (ly_rf hX 0 5 rfl) ?_
    refine ev_iload (x := x4) (pc := 70) d_ga_useIn_70 rfl ?_
    obtain ⟨hv_7, r_4, hq_6, hb_5, h_8⟩ := h_3
    refine ev_ald4 (pc := 72) d_ga_useIn_72 (ly_at hX 16 rfl) hv_7 hq_6 ?_
    refine ev_getJ (v := (gI X r_4 0)) (pc := 73) d_ga_useIn_73 f_ga_240 hb_5 gg_3 rfl rfl ?_
    refine ev_callS (z := m_ga_hasBit) (as := [.int x1, .int (gI X r_4 0)]) (rest := []) (pc := 76) d_ga_useIn_76 l_ga_351 i_ga_hasBit o_ga_hasBit rfl rfl (Nat.le_of_ble_eq_true rfl) rfl (Nat.le_of_ble_eq_true rfl) ⟨Nat.le_of_ble_eq_true rfl, Nat.le_of_ble_eq_true rfl⟩ (s_ga_hasBit hX x1 (gI X r_4 0)) (fun r X1 hq => ?_)
    obtain ⟨rfl, rfl⟩ := hq
    show Ev E m_ga_useIn 79 [(0, .ref 0), (1, .int x1), (2, .int x2), (3, .int x3), (4, .int x4), (5, .int t0)] [.int (bz (gb x1 (gI X r_4 0)))] X (0, 0) Q
    refine ev_ifz_eq (pc := 79) (tgt := 95) d_ga_useIn_79 (by decide) (fun c_9 => ?_) (fun c_9 => ?_)
    · have h_10 := h_8.1 c_9
      refine ev_iinc (v := (x4 + 1)) (L2 := [(0, .ref 0), (1, .int x1), (2, .int x2), (3, .int x3), (4, .int (x4 + 1)), (5, .int t0)]) (pc := 95) d_ga_useIn_95 rfl (by rw [kc_i_1]) rfl (Nat.le_of_ble_eq_true rfl) rfl ?_
      refine ev_goto (pc := 98) (tgt := 5) d_ga_useIn_98 (by decide) ?_
      exact ev_sub [(0, .ref 0), (1, .int x1), (2, .int x2), (3, .int x3), (4, .int (x4 + 1))] (List.forall_mem_cons.mpr ⟨rfl, (List.forall_mem_cons.mpr ⟨rfl, (List.forall_mem_cons.mpr ⟨rfl, (List.forall_mem_cons.mpr ⟨rfl, (List.forall_mem_cons.mpr ⟨rfl, (fun _ h => nomatch h)⟩)⟩)⟩)⟩)⟩) h_10
    · have h_11 := h_8.2 c_9
      refine ev_iload_n (x := x3) (pc := 82) d_ga_useIn_82 rfl ?_
      refine ev_aload_n (x := 0) (pc := 83) d_ga_useIn_83 rfl ?_
      refine ev_getR (pc := 84) d_ga_useIn_84 f_ga_35 (ly_at hX 0 rfl) gg_11 rfl (ly_rf hX 0 5 rfl) ?_
      refine ev_iload (x := x4) (pc := 87) d_ga_useIn_87 rfl ?_
      obtain ⟨hv_15, r_12, hq_14, hb_13, h_16⟩ := h_11
      refine ev_ald4 (pc := 89) d_ga_useIn_89 (ly_at hX 16 rfl) hv_15 hq_14 ?_
      refine ev_getJ (v := (gI X r_12 1)) (pc := 90) d_ga_useIn_90 f_ga_243 hb_13 gg_3 rfl rfl ?_
      refine ev_iadd (pc := 93) d_ga_useIn_93 ?_
      refine ev_istore_n (L2 := [(0, .ref 0), (1, .int x1), (2, .int x2), (3, .int (x3 + (gI X r_12 1))), (4, .int x4), (5, .int t0)]) (pc := 94) d_ga_useIn_94 rfl (Nat.le_of_ble_eq_true rfl) rfl ?_
      refine ev_iinc (v := (x4 + 1)) (L2 := [(0, .ref 0), (1, .int x1), (2, .int x2), (3, .int (x3 + (gI X r_12 1))), (4, .int (x4 + 1)), (5, .int t0)]) (pc := 95) d_ga_useIn_95 rfl (by rw [kc_i_1]) rfl (Nat.le_of_ble_eq_true rfl) rfl ?_
      refine ev_goto (pc := 98) (tgt := 5) d_ga_useIn_98 (by decide) ?_
      exact ev_sub [(0, .ref 0), (1, .int x1), (2, .int x2), (3, .int (x3 + (gI X r_12 1))), (4, .int (x4 + 1))] (List.forall_mem_cons.mpr ⟨rfl, (List.forall_mem_cons.mpr ⟨rfl, (List.forall_mem_cons.mpr ⟨rfl, (List.forall_mem_cons.mpr ⟨rfl, (List.forall_mem_cons.mpr ⟨rfl, (fun _ h => nomatch h)⟩)⟩)⟩)⟩)⟩) h_16
theorem b_ga_terminal_0 {E : gp_E} {S : gp_S} {X : gp_H} {Q : Option Value → gp_H → Prop} {x1 : Int32} (hX : Lay S X)  (hh : ((x1 = (-1) → Ev E m_ga_terminal 19 [(0, .ref 0), (1, .int x1)] [] X (0, 0) Q) ∧ (¬ x1 = (-1) → (((iw x1 0 ((gI X 1 0) - 1)) = true → Ev E m_ga_terminal 19 [(0, .ref 0), (1, .int x1)] [] X (0, 0) Q) ∧ ((iw x1 0 ((gI X 1 0) - 1)) = false → Q (some (.int (-5))) X))))) : Ev E m_ga_terminal 0 [(0, .ref 0), (1, .int x1)] [] X (0, 0) Q := by
  refine ev_iload_n (x := x1) (pc := 0) d_ga_terminal_0 rfl ?_
  refine ev_iconst (v := (-1)) (pc := 1) d_ga_terminal_1 kc_i_m1 ?_
  refine ev_icmp_eq (pc := 2) (tgt := 19) d_ga_terminal_2 (by decide) (fun c_1 => ?_) (fun c_1 => ?_)
  · have h_2 := hh.1 c_1
    exact h_2
  · have h_3 := hh.2 c_1
    refine ev_aload_n (x := 0) (pc := 5) d_ga_terminal_5 rfl ?_
    refine ev_getR (pc := 6) d_ga_terminal_6 f_ga_10 (ly_at hX 0 rfl) gg_11 rfl (ly_rf hX 0 0 rfl) ?_
    refine ev_iload_n (x := x1) (pc := 9) d_ga_terminal_9 rfl ?_
    refine ev_callV (z := m_ne_hasKnot) (as := [.int x1]) (rest := []) (pc := 10) d_ga_terminal_10 (ly_at hX 1 rfl) lt13_5 rfl l_ga_91 i_ne_hasKnot v_ne_hasKnot o_ne_hasKnot rfl rfl (Nat.le_of_ble_eq_true rfl) rfl (Nat.le_of_ble_eq_true rfl) ⟨Nat.le_of_ble_eq_true rfl, Nat.le_of_ble_eq_true rfl⟩ (s_ne_hasKnot hX x1 ) (fun r X1 hq => ?_)
    obtain ⟨rfl, rfl⟩ := hq
    show Ev E m_ga_terminal 13 [(0, .ref 0), (1, .int x1)] [.int (bz (iw x1 0 ((gI X 1 0) - 1)))] X (0, 0) Q
    refine ev_ifz_ne (pc := 13) (tgt := 19) d_ga_terminal_13 (by decide) (fun c_4 => ?_) (fun c_4 => ?_)
    · have h_5 := h_3.1 c_4
      exact h_5
    · have h_6 := h_3.2 c_4
      refine ev_bipush (v := (-5)) (pc := 16) d_ga_terminal_16 kc_b_m5 ?_
      exact ev_iret (pc := 18) ⟨Nat.le_of_ble_eq_true rfl, Nat.le_of_ble_eq_true rfl⟩ d_ga_terminal_18 rfl (vp_nar_int _) h_6
theorem b_ga_terminal_19 {E : gp_E} {S : gp_S} {X : gp_H} {Q : Option Value → gp_H → Prop} {x1 : Int32} (hX : Lay S X)  (hh : Q (some (.int (gI X 1 8))) (gp_sI X 1 8 x1)) : Ev E m_ga_terminal 19 [(0, .ref 0), (1, .int x1)] [] X (0, 0) Q := by
  refine ev_aload_n (x := 0) (pc := 19) d_ga_terminal_19 rfl ?_
  refine ev_getR (pc := 20) d_ga_terminal_20 f_ga_10 (ly_at hX 0 rfl) gg_11 rfl (ly_rf hX 0 0 rfl) ?_
  refine ev_getJ (v := (gI X 1 8)) (pc := 23) d_ga_terminal_23 f_ga_157 (ly_at hX 1 rfl) gg_5 rfl rfl ?_
  refine ev_istore_n (L2 := [(0, .ref 0), (1, .int x1), (2, .int (gI X 1 8))]) (pc := 26) d_ga_terminal_26 rfl (Nat.le_of_ble_eq_true rfl) rfl ?_
  refine ev_aload_n (x := 0) (pc := 27) d_ga_terminal_27 rfl ?_
  refine ev_getR (pc := 28) d_ga_terminal_28 f_ga_10 (ly_at hX 0 rfl) gg_11 rfl (ly_rf hX 0 0 rfl) ?_
  refine ev_iload_n (x := x1) (pc := 31) d_ga_terminal_31 rfl ?_
  refine ev_putI (pc := 32) d_ga_terminal_32 f_ga_157 (ly_at hX 1 rfl) gg_5 rfl (Or.inl rfl) (vp_nar_int _) rfl ?_
  refine ev_iload_n (x := (gI X 1 8)) (pc := 35) d_ga_terminal_35 rfl ?_
  exact ev_iret (pc := 36) ⟨Nat.le_of_ble_eq_true rfl, Nat.le_of_ble_eq_true rfl⟩ d_ga_terminal_36 rfl (vp_nar_int _) hh
theorem b_ga_gas_0 {E : gp_E} {S : gp_S} {X : gp_H} {Q : Option Value → gp_H → Prop} {x1 : Int32} (hX : Lay S X)  (hh : (((iw x1 0 ((gI X 1 0) - 1)) = true → (∃ Qz_4, Ev E m_ne_oldReach 0 [(0, .ref 1)] [] X (0, 0) Qz_4 ∧ ∀ r X_7, Qz_4 r X_7 → ∃ v_12 : Int32, r = some (.int v_12) ∧ Lay S X_7 ∧ (∃ Qz_13, Ev E m_ne_newReach 0 [(0, .ref 1)] [] X_7 (0, 0) Qz_13 ∧ ∀ r X_16, Qz_13 r X_16 → ∃ v_21 : Int32, r = some (.int v_21) ∧ Lay S X_16 ∧ (∃ Qz_22, Ev E m_ga_gasAt 0 [(0, .int x1), (1, .int v_12), (2, .int v_21)] [] X_16 (0, 0) Qz_22 ∧ ∀ r X_25, Qz_22 r X_25 → ∃ v_30 : Int32, r = some (.int v_30) ∧ Lay S X_25 ∧ Q (some (.int v_30)) X_25)))) ∧ ((iw x1 0 ((gI X 1 0) - 1)) = false → Q (some (.int (-1))) X))) : Ev E m_ga_gas 0 [(0, .ref 0), (1, .int x1)] [] X (0, 0) Q := by
  refine ev_aload_n (x := 0) (pc := 0) d_ga_gas_0 rfl ?_
  refine ev_getR (pc := 1) d_ga_gas_1 f_ga_10 (ly_at hX 0 rfl) gg_11 rfl (ly_rf hX 0 0 rfl) ?_
  refine ev_iload_n (x := x1) (pc := 4) d_ga_gas_4 rfl ?_
  refine ev_callV (z := m_ne_hasKnot) (as := [.int x1]) (rest := []) (pc := 5) d_ga_gas_5 (ly_at hX 1 rfl) lt13_5 rfl l_ga_91 i_ne_hasKnot v_ne_hasKnot o_ne_hasKnot rfl rfl (Nat.le_of_ble_eq_true rfl) rfl (Nat.le_of_ble_eq_true rfl) ⟨Nat.le_of_ble_eq_true rfl, Nat.le_of_ble_eq_true rfl⟩ (s_ne_hasKnot hX x1 ) (fun r X1 hq => ?_)
  obtain ⟨rfl, rfl⟩ := hq
  show Ev E m_ga_gas 8 [(0, .ref 0), (1, .int x1)] [.int (bz (iw x1 0 ((gI X 1 0) - 1)))] X (0, 0) Q
  refine ev_ifz_ne (pc := 8) (tgt := 13) d_ga_gas_8 (by decide) (fun c_1 => ?_) (fun c_1 => ?_)
  · have h_2 := hh.1 c_1
    refine ev_iload_n (x := x1) (pc := 13) d_ga_gas_13 rfl ?_
    refine ev_aload_n (x := 0) (pc := 14) d_ga_gas_14 rfl ?_
    refine ev_getR (pc := 15) d_ga_gas_15 f_ga_10 (ly_at hX 0 rfl) gg_11 rfl (ly_rf hX 0 0 rfl) ?_
    obtain ⟨Qz_4, hc_5, hk_6⟩ := h_2
    refine ev_callV (z := m_ne_oldReach) (as := []) (rest := [.int x1]) (pc := 18) d_ga_gas_18 (ly_at hX 1 rfl) lt13_5 rfl l_ga_160 i_ne_oldReach v_ne_oldReach o_ne_oldReach rfl rfl (Nat.le_of_ble_eq_true rfl) rfl (Nat.le_of_ble_eq_true rfl) ⟨Nat.le_of_ble_eq_true rfl, Nat.le_of_ble_eq_true rfl⟩ hc_5 (fun r_8 X_7 hq_9 => ?_)
    obtain ⟨v_12, rfl, hX_11, h_10⟩ := hk_6 _ _ hq_9
    show Ev E m_ga_gas 21 [(0, .ref 0), (1, .int x1)] [.int v_12, .int x1] X_7 (0, 0) Q
    refine ev_aload_n (x := 0) (pc := 21) d_ga_gas_21 rfl ?_
    refine ev_getR (pc := 22) d_ga_gas_22 f_ga_10 (ly_at hX_11 0 rfl) gg_11 rfl (ly_rf hX_11 0 0 rfl) ?_
    obtain ⟨Qz_13, hc_14, hk_15⟩ := h_10
    refine ev_callV (z := m_ne_newReach) (as := []) (rest := [.int v_12, .int x1]) (pc := 25) d_ga_gas_25 (ly_at hX_11 1 rfl) lt13_5 rfl l_ga_164 i_ne_newReach v_ne_newReach o_ne_newReach rfl rfl (Nat.le_of_ble_eq_true rfl) rfl (Nat.le_of_ble_eq_true rfl) ⟨Nat.le_of_ble_eq_true rfl, Nat.le_of_ble_eq_true rfl⟩ hc_14 (fun r_17 X_16 hq_18 => ?_)
    obtain ⟨v_21, rfl, hX_20, h_19⟩ := hk_15 _ _ hq_18
    show Ev E m_ga_gas 28 [(0, .ref 0), (1, .int x1)] [.int v_21, .int v_12, .int x1] X_16 (0, 0) Q
    obtain ⟨Qz_22, hc_23, hk_24⟩ := h_19
    refine ev_callS (z := m_ga_gasAt) (as := [.int x1, .int v_12, .int v_21]) (rest := []) (pc := 28) d_ga_gas_28 l_ga_167 i_ga_gasAt o_ga_gasAt rfl rfl (Nat.le_of_ble_eq_true rfl) rfl (Nat.le_of_ble_eq_true rfl) ⟨Nat.le_of_ble_eq_true rfl, Nat.le_of_ble_eq_true rfl⟩ hc_23 (fun r_26 X_25 hq_27 => ?_)
    obtain ⟨v_30, rfl, hX_29, h_28⟩ := hk_24 _ _ hq_27
    show Ev E m_ga_gas 31 [(0, .ref 0), (1, .int x1)] [.int v_30] X_25 (0, 0) Q
    exact ev_iret (pc := 31) ⟨Nat.le_of_ble_eq_true rfl, Nat.le_of_ble_eq_true rfl⟩ d_ga_gas_31 rfl (vp_nar_int _) h_28
  · have h_3 := hh.2 c_1
    refine ev_iconst (v := (-1)) (pc := 11) d_ga_gas_11 kc_i_m1 ?_
    exact ev_iret (pc := 12) ⟨Nat.le_of_ble_eq_true rfl, Nat.le_of_ble_eq_true rfl⟩ d_ga_gas_12 rfl (vp_nar_int _) h_3
theorem b_ga_gasAt_0 {E : gp_E} {S : gp_S} {X : gp_H} {Q : Option Value → gp_H → Prop} {x0 : Int32} {x1 : Int32} {x2 : Int32} (hX : Lay S X)  (hh : (((gb x1 x0) = false → Ev E m_ga_gasAt 13 [(0, .int x0), (1, .int x1), (2, .int x2)] [.int 0] X (0, 0) Q) ∧ ((gb x1 x0) = true → Ev E m_ga_gasAt 13 [(0, .int x0), (1, .int x1), (2, .int x2)] [.int 1] X (0, 0) Q))) : Ev E m_ga_gasAt 0 [(0, .int x0), (1, .int x1), (2, .int x2)] [] X (0, 0) Q := by
  refine ev_iload_n (x := x1) (pc := 0) d_ga_gasAt_0 rfl ?_
  refine ev_iload_n (x := x0) (pc := 1) d_ga_gasAt_1 rfl ?_
  refine ev_callS (z := m_ga_hasBit) (as := [.int x1, .int x0]) (rest := []) (pc := 2) d_ga_gasAt_2 l_ga_351 i_ga_hasBit o_ga_hasBit rfl rfl (Nat.le_of_ble_eq_true rfl) rfl (Nat.le_of_ble_eq_true rfl) ⟨Nat.le_of_ble_eq_true rfl, Nat.le_of_ble_eq_true rfl⟩ (s_ga_hasBit hX x1 x0) (fun r X1 hq => ?_)
  obtain ⟨rfl, rfl⟩ := hq
  show Ev E m_ga_gasAt 5 [(0, .int x0), (1, .int x1), (2, .int x2)] [.int (bz (gb x1 x0))] X (0, 0) Q
  refine ev_ifz_eq (pc := 5) (tgt := 12) d_ga_gasAt_5 (by decide) (fun c_1 => ?_) (fun c_1 => ?_)
  · have h_2 := hh.1 c_1
    refine ev_iconst (v := 0) (pc := 12) d_ga_gasAt_12 kc_i_0 ?_
    exact h_2
  · have h_3 := hh.2 c_1
    refine ev_iconst (v := 1) (pc := 8) d_ga_gasAt_8 kc_i_1 ?_
    refine ev_goto (pc := 9) (tgt := 13) d_ga_gasAt_9 (by decide) ?_
    exact h_3
theorem b_ga_gasAt_13 {E : gp_E} {S : gp_S} {X : gp_H} {Q : Option Value → gp_H → Prop} {x0 : Int32} {x1 : Int32} {x2 : Int32} {t0 : Int32} (hX : Lay S X)  (hh : (((gb x2 x0) = false → Q (some (.int (t0 ||| 0))) X) ∧ ((gb x2 x0) = true → Q (some (.int (t0 ||| 2))) X))) : Ev E m_ga_gasAt 13 [(0, .int x0), (1, .int x1), (2, .int x2)] [.int t0] X (0, 0) Q := by
  refine ev_iload_n (x := x2) (pc := 13) d_ga_gasAt_13 rfl ?_
  refine ev_iload_n (x := x0) (pc := 14) d_ga_gasAt_14 rfl ?_
  refine ev_callS (z := m_ga_hasBit) (as := [.int x2, .int x0]) (rest := [.int t0]) (pc := 15) d_ga_gasAt_15 l_ga_351 i_ga_hasBit o_ga_hasBit rfl rfl (Nat.le_of_ble_eq_true rfl) rfl (Nat.le_of_ble_eq_true rfl) ⟨Nat.le_of_ble_eq_true rfl, Nat.le_of_ble_eq_true rfl⟩ (s_ga_hasBit hX x2 x0) (fun r X1 hq => ?_)
  obtain ⟨rfl, rfl⟩ := hq
  show Ev E m_ga_gasAt 18 [(0, .int x0), (1, .int x1), (2, .int x2)] [.int (bz (gb x2 x0)), .int t0] X (0, 0) Q
  refine ev_ifz_eq (pc := 18) (tgt := 25) d_ga_gasAt_18 (by decide) (fun c_1 => ?_) (fun c_1 => ?_)
  · have h_2 := hh.1 c_1
    refine ev_iconst (v := 0) (pc := 25) d_ga_gasAt_25 kc_i_0 ?_
    refine ev_ior (pc := 26) d_ga_gasAt_26 ?_
    exact ev_iret (pc := 27) ⟨Nat.le_of_ble_eq_true rfl, Nat.le_of_ble_eq_true rfl⟩ d_ga_gasAt_27 rfl (vp_nar_int _) h_2
  · have h_3 := hh.2 c_1
    refine ev_iconst (v := 2) (pc := 21) d_ga_gasAt_21 kc_i_2 ?_
    refine ev_goto (pc := 22) (tgt := 26) d_ga_gasAt_22 (by decide) ?_
    refine ev_ior (pc := 26) d_ga_gasAt_26 ?_
    exact ev_iret (pc := 27) ⟨Nat.le_of_ble_eq_true rfl, Nat.le_of_ble_eq_true rfl⟩ d_ga_gasAt_27 rfl (vp_nar_int _) h_3
theorem b_ga_area_0 {E : gp_E} {S : gp_S} {X : gp_H} {Q : Option Value → gp_H → Prop} {x1 : Int32} (hX : Lay S X)  (hh : (((iw x1 0 ((gI X 1 0) - 1)) = true → (∃ Qz_4, Ev E m_ne_areaOf 0 [(0, .ref 1), (1, .int x1)] [] X (0, 0) Qz_4 ∧ ∀ r X_7, Qz_4 r X_7 → ∃ v_12 : Int32, r = some (.int v_12) ∧ Lay S X_7 ∧ Q (some (.int v_12)) X_7)) ∧ ((iw x1 0 ((gI X 1 0) - 1)) = false → Q (some (.int (-1))) X))) : Ev E m_ga_area 0 [(0, .ref 0), (1, .int x1)] [] X (0, 0) Q := by
  refine ev_aload_n (x := 0) (pc := 0) d_ga_area_0 rfl ?_
  refine ev_getR (pc := 1) d_ga_area_1 f_ga_10 (ly_at hX 0 rfl) gg_11 rfl (ly_rf hX 0 0 rfl) ?_
  refine ev_iload_n (x := x1) (pc := 4) d_ga_area_4 rfl ?_
  refine ev_callV (z := m_ne_hasKnot) (as := [.int x1]) (rest := []) (pc := 5) d_ga_area_5 (ly_at hX 1 rfl) lt13_5 rfl l_ga_91 i_ne_hasKnot v_ne_hasKnot o_ne_hasKnot rfl rfl (Nat.le_of_ble_eq_true rfl) rfl (Nat.le_of_ble_eq_true rfl) ⟨Nat.le_of_ble_eq_true rfl, Nat.le_of_ble_eq_true rfl⟩ (s_ne_hasKnot hX x1 ) (fun r X1 hq => ?_)
  obtain ⟨rfl, rfl⟩ := hq
  show Ev E m_ga_area 8 [(0, .ref 0), (1, .int x1)] [.int (bz (iw x1 0 ((gI X 1 0) - 1)))] X (0, 0) Q
  refine ev_ifz_ne (pc := 8) (tgt := 13) d_ga_area_8 (by decide) (fun c_1 => ?_) (fun c_1 => ?_)
  · have h_2 := hh.1 c_1
    refine ev_aload_n (x := 0) (pc := 13) d_ga_area_13 rfl ?_
    refine ev_getR (pc := 14) d_ga_area_14 f_ga_10 (ly_at hX 0 rfl) gg_11 rfl (ly_rf hX 0 0 rfl) ?_
    refine ev_iload_n (x := x1) (pc := 17) d_ga_area_17 rfl ?_
    obtain ⟨Qz_4, hc_5, hk_6⟩ := h_2
    refine ev_callV (z := m_ne_areaOf) (as := [.int x1]) (rest := []) (pc := 18) d_ga_area_18 (ly_at hX 1 rfl) lt13_5 rfl l_ga_170 i_ne_areaOf v_ne_areaOf o_ne_areaOf rfl rfl (Nat.le_of_ble_eq_true rfl) rfl (Nat.le_of_ble_eq_true rfl) ⟨Nat.le_of_ble_eq_true rfl, Nat.le_of_ble_eq_true rfl⟩ hc_5 (fun r_8 X_7 hq_9 => ?_)
    obtain ⟨v_12, rfl, hX_11, h_10⟩ := hk_6 _ _ hq_9
    show Ev E m_ga_area 21 [(0, .ref 0), (1, .int x1)] [.int v_12] X_7 (0, 0) Q
    exact ev_iret (pc := 21) ⟨Nat.le_of_ble_eq_true rfl, Nat.le_of_ble_eq_true rfl⟩ d_ga_area_21 rfl (vp_nar_int _) h_10
  · have h_3 := hh.2 c_1
    refine ev_iconst (v := (-1)) (pc := 11) d_ga_area_11 kc_i_m1 ?_
    exact ev_iret (pc := 12) ⟨Nat.le_of_ble_eq_true rfl, Nat.le_of_ble_eq_true rfl⟩ d_ga_area_12 rfl (vp_nar_int _) h_3
theorem b_ga_pressure_0 {E : gp_E} {S : gp_S} {X : gp_H} {Q : Option Value → gp_H → Prop} {x1 : Int32} (hX : Lay S X)  (hh : (((iw x1 0 ((gI X 1 0) - 1)) = true → (∃ Qz_4, Ev E m_ne_oldReach 0 [(0, .ref 1)] [] X (0, 0) Qz_4 ∧ ∀ r X_7, Qz_4 r X_7 → ∃ v_12 : Int32, r = some (.int v_12) ∧ Lay S X_7 ∧ (∃ Qz_13, Ev E m_ne_newReach 0 [(0, .ref 1)] [] X_7 (0, 0) Qz_13 ∧ ∀ r X_16, Qz_13 r X_16 → ∃ v_21 : Int32, r = some (.int v_21) ∧ Lay S X_16 ∧ (∃ Qz_22, Ev E m_ga_gasAt 0 [(0, .int x1), (1, .int v_12), (2, .int v_21)] [] X_16 (0, 0) Qz_22 ∧ ∀ r X_25, Qz_22 r X_25 → ∃ v_30 : Int32, r = some (.int v_30) ∧ Lay S X_25 ∧ ((¬ v_30 = 0 → ((¬ v_30 = 3 → (∃ Qz_37, Ev E m_ne_areaOf 0 [(0, .ref 1), (1, .int x1)] [] X_25 (0, 0) Qz_37 ∧ ∀ r X_40, Qz_37 r X_40 → ∃ v_45 : Int32, r = some (.int v_45) ∧ Lay S X_40 ∧ ((¬ v_30 = 1 → Ev E m_ga_pressure 75 [(0, .ref 0), (1, .int x1), (2, .int v_30), (3, .int v_45)] [.int 5000] X_40 (0, 0) Q) ∧ (v_30 = 1 → (∃ Qz_49, Ev E m_ne_makeIn 0 [(0, .ref 1), (1, .int v_45)] [] X_40 (0, 0) Qz_49 ∧ ∀ r X_52, Qz_49 r X_52 → ∃ v_57 : Int32, r = some (.int v_57) ∧ Lay S X_52 ∧ Ev E m_ga_pressure 75 [(0, .ref 0), (1, .int x1), (2, .int v_30), (3, .int v_45)] [.int v_57] X_52 (0, 0) Q))))) ∧ (v_30 = 3 → Q (some (.int (-2))) X_25))) ∧ (v_30 = 0 → Q (some (.int (-1))) X_25)))))) ∧ ((iw x1 0 ((gI X 1 0) - 1)) = false → Q (some (.int (-5))) X))) : Ev E m_ga_pressure 0 [(0, .ref 0), (1, .int x1)] [] X (0, 0) Q := by
  refine ev_aload_n (x := 0) (pc := 0) d_ga_pressure_0 rfl ?_
  refine ev_getR (pc := 1) d_ga_pressure_1 f_ga_10 (ly_at hX 0 rfl) gg_11 rfl (ly_rf hX 0 0 rfl) ?_
  refine ev_iload_n (x := x1) (pc := 4) d_ga_pressure_4 rfl ?_
  refine ev_callV (z := m_ne_hasKnot) (as := [.int x1]) (rest := []) (pc := 5) d_ga_pressure_5 (ly_at hX 1 rfl) lt13_5 rfl l_ga_91 i_ne_hasKnot v_ne_hasKnot o_ne_hasKnot rfl rfl (Nat.le_of_ble_eq_true rfl) rfl (Nat.le_of_ble_eq_true rfl) ⟨Nat.le_of_ble_eq_true rfl, Nat.le_of_ble_eq_true rfl⟩ (s_ne_hasKnot hX x1 ) (fun r X1 hq => ?_)
  obtain ⟨rfl, rfl⟩ := hq
  show Ev E m_ga_pressure 8 [(0, .ref 0), (1, .int x1)] [.int (bz (iw x1 0 ((gI X 1 0) - 1)))] X (0, 0) Q
  refine ev_ifz_ne (pc := 8) (tgt := 14) d_ga_pressure_8 (by decide) (fun c_1 => ?_) (fun c_1 => ?_)
  · have h_2 := hh.1 c_1
    refine ev_iload_n (x := x1) (pc := 14) d_ga_pressure_14 rfl ?_
    refine ev_aload_n (x := 0) (pc := 15) d_ga_pressure_15 rfl ?_
    refine ev_getR (pc := 16) d_ga_pressure_16 f_ga_10 (ly_at hX 0 rfl) gg_11 rfl (ly_rf hX 0 0 rfl) ?_
    obtain ⟨Qz_4, hc_5, hk_6⟩ := h_2
    refine ev_callV (z := m_ne_oldReach) (as := []) (rest := [.int x1]) (pc := 19) d_ga_pressure_19 (ly_at hX 1 rfl) lt13_5 rfl l_ga_160 i_ne_oldReach v_ne_oldReach o_ne_oldReach rfl rfl (Nat.le_of_ble_eq_true rfl) rfl (Nat.le_of_ble_eq_true rfl) ⟨Nat.le_of_ble_eq_true rfl, Nat.le_of_ble_eq_true rfl⟩ hc_5 (fun r_8 X_7 hq_9 => ?_)
    obtain ⟨v_12, rfl, hX_11, h_10⟩ := hk_6 _ _ hq_9
    show Ev E m_ga_pressure 22 [(0, .ref 0), (1, .int x1)] [.int v_12, .int x1] X_7 (0, 0) Q
    refine ev_aload_n (x := 0) (pc := 22) d_ga_pressure_22 rfl ?_
    refine ev_getR (pc := 23) d_ga_pressure_23 f_ga_10 (ly_at hX_11 0 rfl) gg_11 rfl (ly_rf hX_11 0 0 rfl) ?_
    obtain ⟨Qz_13, hc_14, hk_15⟩ := h_10
    refine ev_callV (z := m_ne_newReach) (as := []) (rest := [.int v_12, .int x1]) (pc := 26) d_ga_pressure_26 (ly_at hX_11 1 rfl) lt13_5 rfl l_ga_164 i_ne_newReach v_ne_newReach o_ne_newReach rfl rfl (Nat.le_of_ble_eq_true rfl) rfl (Nat.le_of_ble_eq_true rfl) ⟨Nat.le_of_ble_eq_true rfl, Nat.le_of_ble_eq_true rfl⟩ hc_14 (fun r_17 X_16 hq_18 => ?_)
    obtain ⟨v_21, rfl, hX_20, h_19⟩ := hk_15 _ _ hq_18
    show Ev E m_ga_pressure 29 [(0, .ref 0), (1, .int x1)] [.int v_21, .int v_12, .int x1] X_16 (0, 0) Q
    obtain ⟨Qz_22, hc_23, hk_24⟩ := h_19
    refine ev_callS (z := m_ga_gasAt) (as := [.int x1, .int v_12, .int v_21]) (rest := []) (pc := 29) d_ga_pressure_29 l_ga_167 i_ga_gasAt o_ga_gasAt rfl rfl (Nat.le_of_ble_eq_true rfl) rfl (Nat.le_of_ble_eq_true rfl) ⟨Nat.le_of_ble_eq_true rfl, Nat.le_of_ble_eq_true rfl⟩ hc_23 (fun r_26 X_25 hq_27 => ?_)
    obtain ⟨v_30, rfl, hX_29, h_28⟩ := hk_24 _ _ hq_27
    show Ev E m_ga_pressure 32 [(0, .ref 0), (1, .int x1)] [.int v_30] X_25 (0, 0) Q
    refine ev_istore_n (L2 := [(0, .ref 0), (1, .int x1), (2, .int v_30)]) (pc := 32) d_ga_pressure_32 rfl (Nat.le_of_ble_eq_true rfl) rfl ?_
    refine ev_iload_n (x := v_30) (pc := 33) d_ga_pressure_33 rfl ?_
    refine ev_if_ne (pc := 34) (tgt := 39) d_ga_pressure_34 (by decide) (fun c_31 => ?_) (fun c_31 => ?_)
    · have h_32 := h_28.1 c_31
      refine ev_iload_n (x := v_30) (pc := 39) d_ga_pressure_39 rfl ?_
      refine ev_iconst (v := 3) (pc := 40) d_ga_pressure_40 kc_i_3 ?_
      refine ev_icmp_ne (pc := 41) (tgt := 47) d_ga_pressure_41 (by decide) (fun c_34 => ?_) (fun c_34 => ?_)
      · have h_35 := h_32.1 c_34
        refine ev_aload_n (x := 0) (pc := 47) d_ga_pressure_47 rfl ?_
        refine ev_getR (pc := 48) d_ga_pressure_48 f_ga_10 (ly_at hX_29 0 rfl) gg_11 rfl (ly_rf hX_29 0 0 rfl) ?_
        refine ev_iload_n (x := x1) (pc := 51) d_ga_pressure_51 rfl ?_
        obtain ⟨Qz_37, hc_38, hk_39⟩ := h_35
        refine ev_callV (z := m_ne_areaOf) (as := [.int x1]) (rest := []) (pc := 52) d_ga_pressure_52 (ly_at hX_29 1 rfl) lt13_5 rfl l_ga_170 i_ne_areaOf v_ne_areaOf o_ne_areaOf rfl rfl (Nat.le_of_ble_eq_true rfl) rfl (Nat.le_of_ble_eq_true rfl) ⟨Nat.le_of_ble_eq_true rfl, Nat.le_of_ble_eq_true rfl⟩ hc_38 (fun r_41 X_40 hq_42 => ?_)
        obtain ⟨v_45, rfl, hX_44, h_43⟩ := hk_39 _ _ hq_42
        show Ev E m_ga_pressure 55 [(0, .ref 0), (1, .int x1), (2, .int v_30)] [.int v_45] X_40 (0, 0) Q
        refine ev_istore_n (L2 := [(0, .ref 0), (1, .int x1), (2, .int v_30), (3, .int v_45)]) (pc := 55) d_ga_pressure_55 rfl (Nat.le_of_ble_eq_true rfl) rfl ?_
        refine ev_iload_n (x := v_30) (pc := 56) d_ga_pressure_56 rfl ?_
        refine ev_iconst (v := 1) (pc := 57) d_ga_pressure_57 kc_i_1 ?_
        refine ev_icmp_ne (pc := 58) (tgt := 72) d_ga_pressure_58 (by decide) (fun c_46 => ?_) (fun c_46 => ?_)
        · have h_47 := h_43.1 c_46
          refine ev_sipush (v := 5000) (pc := 72) d_ga_pressure_72 kc_s_5000 ?_
          exact h_47
        · have h_48 := h_43.2 c_46
          refine ev_aload_n (x := 0) (pc := 61) d_ga_pressure_61 rfl ?_
          refine ev_getR (pc := 62) d_ga_pressure_62 f_ga_10 (ly_at hX_44 0 rfl) gg_11 rfl (ly_rf hX_44 0 0 rfl) ?_
          refine ev_iload_n (x := v_45) (pc := 65) d_ga_pressure_65 rfl ?_
          obtain ⟨Qz_49, hc_50, hk_51⟩ := h_48
          refine ev_callV (z := m_ne_makeIn) (as := [.int v_45]) (rest := []) (pc := 66) d_ga_pressure_66 (ly_at hX_44 1 rfl) lt13_5 rfl l_ga_174 i_ne_makeIn v_ne_makeIn o_ne_makeIn rfl rfl (Nat.le_of_ble_eq_true rfl) rfl (Nat.le_of_ble_eq_true rfl) ⟨Nat.le_of_ble_eq_true rfl, Nat.le_of_ble_eq_true rfl⟩ hc_50 (fun r_53 X_52 hq_54 => ?_)
          obtain ⟨v_57, rfl, hX_56, h_55⟩ := hk_51 _ _ hq_54
          show Ev E m_ga_pressure 69 [(0, .ref 0), (1, .int x1), (2, .int v_30), (3, .int v_45)] [.int v_57] X_52 (0, 0) Q
          refine ev_goto (pc := 69) (tgt := 75) d_ga_pressure_69 (by decide) ?_
          exact h_55
      · have h_36 := h_32.2 c_34
        refine ev_bipush (v := (-2)) (pc := 44) d_ga_pressure_44 kc_b_m2 ?_
        exact ev_iret (pc := 46) ⟨Nat.le_of_ble_eq_true rfl, Nat.le_of_ble_eq_true rfl⟩ d_ga_pressure_46 rfl (vp_nar_int _) h_36
    · have h_33 := h_28.2 c_31
      refine ev_iconst (v := (-1)) (pc := 37) d_ga_pressure_37 kc_i_m1 ?_
      exact ev_iret (pc := 38) ⟨Nat.le_of_ble_eq_true rfl, Nat.le_of_ble_eq_true rfl⟩ d_ga_pressure_38 rfl (vp_nar_int _) h_33
  · have h_3 := hh.2 c_1
    refine ev_bipush (v := (-5)) (pc := 11) d_ga_pressure_11 kc_b_m5 ?_
    exact ev_iret (pc := 13) ⟨Nat.le_of_ble_eq_true rfl, Nat.le_of_ble_eq_true rfl⟩ d_ga_pressure_13 rfl (vp_nar_int _) h_3
theorem b_ga_pressure_75 {E : gp_E} {S : gp_S} {X : gp_H} {Q : Option Value → gp_H → Prop} {x1 : Int32} {x2 : Int32} {x3 : Int32} {t0 : Int32} (hX : Lay S X)  (hh : (∃ Qz_1, Ev E m_ga_useIn 0 [(0, .ref 0), (1, .int x3), (2, .int 0)] [] X (0, 0) Qz_1 ∧ ∀ r X_4, Qz_1 r X_4 → ∃ v_9 : Int32, r = some (.int v_9) ∧ Lay S X_4 ∧ ((0 < v_9 → (¬ v_9 = 0 ∧ (∃ Qz_13, Ev E m_ga_stepsUpTo 0 [(0, .ref 0), (1, .int ((t0 * 100) / v_9))] [] X_4 (0, 0) Qz_13 ∧ ∀ r X_16, Qz_13 r X_16 → ∃ v_21 : Int32, r = some (.int v_21) ∧ Lay S X_16 ∧ Q (some (.int v_21)) X_16))) ∧ (¬ 0 < v_9 → Q (some (.int 4)) X_4)))) : Ev E m_ga_pressure 75 [(0, .ref 0), (1, .int x1), (2, .int x2), (3, .int x3)] [.int t0] X (0, 0) Q := by
  refine ev_istore (L2 := [(0, .ref 0), (1, .int x1), (2, .int x2), (3, .int x3), (4, .int t0)]) (pc := 75) d_ga_pressure_75 rfl (Nat.le_of_ble_eq_true rfl) rfl ?_
  refine ev_aload_n (x := 0) (pc := 77) d_ga_pressure_77 rfl ?_
  refine ev_iload_n (x := x3) (pc := 78) d_ga_pressure_78 rfl ?_
  refine ev_iconst (v := 0) (pc := 79) d_ga_pressure_79 kc_i_0 ?_
  obtain ⟨Qz_1, hc_2, hk_3⟩ := hh
  refine ev_callV (z := m_ga_useIn) (as := [.int x3, .int 0]) (rest := []) (pc := 80) d_ga_pressure_80 (ly_at hX 0 rfl) lt13_11 rfl l_ga_177 i_ga_useIn v_ga_useIn o_ga_useIn rfl rfl (Nat.le_of_ble_eq_true rfl) rfl (Nat.le_of_ble_eq_true rfl) ⟨Nat.le_of_ble_eq_true rfl, Nat.le_of_ble_eq_true rfl⟩ hc_2 (fun r_5 X_4 hq_6 => ?_)
  obtain ⟨v_9, rfl, hX_8, h_7⟩ := hk_3 _ _ hq_6
  show Ev E m_ga_pressure 83 [(0, .ref 0), (1, .int x1), (2, .int x2), (3, .int x3), (4, .int t0)] [.int v_9] X_4 (0, 0) Q
  refine ev_istore (L2 := [(0, .ref 0), (1, .int x1), (2, .int x2), (3, .int x3), (4, .int t0), (5, .int v_9)]) (pc := 83) d_ga_pressure_83 rfl (Nat.le_of_ble_eq_true rfl) rfl ?_
  refine ev_iload (x := v_9) (pc := 85) d_ga_pressure_85 rfl ?_
  refine ev_if_gt (pc := 87) (tgt := 92) d_ga_pressure_87 (by decide) (fun c_10 => ?_) (fun c_10 => ?_)
  · have h_11 := h_7.1 c_10
    refine ev_aload_n (x := 0) (pc := 92) d_ga_pressure_92 rfl ?_
    refine ev_iload (x := t0) (pc := 93) d_ga_pressure_93 rfl ?_
    refine ev_bipush (v := 100) (pc := 95) d_ga_pressure_95 kc_b_100 ?_
    refine ev_imul (pc := 97) d_ga_pressure_97 ?_
    refine ev_iload (x := v_9) (pc := 98) d_ga_pressure_98 rfl ?_
    refine ev_idiv (pc := 100) d_ga_pressure_100 h_11.1 ?_
    obtain ⟨Qz_13, hc_14, hk_15⟩ := h_11.2
    refine ev_callV (z := m_ga_stepsUpTo) (as := [.int ((t0 * 100) / v_9)]) (rest := []) (pc := 101) d_ga_pressure_101 (ly_at hX_8 0 rfl) lt13_11 rfl l_ga_181 i_ga_stepsUpTo v_ga_stepsUpTo o_ga_stepsUpTo rfl rfl (Nat.le_of_ble_eq_true rfl) rfl (Nat.le_of_ble_eq_true rfl) ⟨Nat.le_of_ble_eq_true rfl, Nat.le_of_ble_eq_true rfl⟩ hc_14 (fun r_17 X_16 hq_18 => ?_)
    obtain ⟨v_21, rfl, hX_20, h_19⟩ := hk_15 _ _ hq_18
    show Ev E m_ga_pressure 104 [(0, .ref 0), (1, .int x1), (2, .int x2), (3, .int x3), (4, .int t0), (5, .int v_9)] [.int v_21] X_16 (0, 0) Q
    exact ev_iret (pc := 104) ⟨Nat.le_of_ble_eq_true rfl, Nat.le_of_ble_eq_true rfl⟩ d_ga_pressure_104 rfl (vp_nar_int _) h_19
  · have h_12 := h_7.2 c_10
    refine ev_iconst (v := 4) (pc := 90) d_ga_pressure_90 kc_i_4 ?_
    exact ev_iret (pc := 91) ⟨Nat.le_of_ble_eq_true rfl, Nat.le_of_ble_eq_true rfl⟩ d_ga_pressure_91 rfl (vp_nar_int _) h_12
theorem b_ga_stepsUpTo_0 {E : gp_E} {S : gp_S} {X : gp_H} {Q : Option Value → gp_H → Prop} {x1 : Int32} (hX : Lay S X)  (hh : Ev E m_ga_stepsUpTo 4 [(0, .ref 0), (1, .int x1), (2, .int 0), (3, .int 0)] [] X (0, 0) Q) : Ev E m_ga_stepsUpTo 0 [(0, .ref 0), (1, .int x1)] [] X (0, 0) Q := by
  refine ev_iconst (v := 0) (pc := 0) d_ga_stepsUpTo_0 kc_i_0 ?_
  refine ev_istore_n (L2 := [(0, .ref 0), (1, .int x1), (2, .int 0)]) (pc := 1) d_ga_stepsUpTo_1 rfl (Nat.le_of_ble_eq_true rfl) rfl ?_
  refine ev_iconst (v := 0) (pc := 2) d_ga_stepsUpTo_2 kc_i_0 ?_
  refine ev_istore_n (L2 := [(0, .ref 0), (1, .int x1), (2, .int 0), (3, .int 0)]) (pc := 3) d_ga_stepsUpTo_3 rfl (Nat.le_of_ble_eq_true rfl) rfl ?_
  exact hh
theorem b_ga_stepsUpTo_4 {E : gp_E} {S : gp_S} {X : gp_H} {Q : Option Value → gp_H → Prop} {x1 : Int32} {x2 : Int32} {x3 : Int32} (hX : Lay S X)  (hh : ((4 ≤ x3 → Q (some (.int x2)) X) ∧ (¬ 4 ≤ x3 → (vp_in x3 4 ∧ ((x1 < (gI X 12 (Int32.toNatClampNeg x3)) → Ev E m_ga_stepsUpTo 4 [(0, .ref 0), (1, .int x1), (2, .int x2), (3, .int (x3 + 1))] [] X (0, 0) Q) ∧ (¬ x1 < (gI X 12 (Int32.toNatClampNeg x3)) → Ev E m_ga_stepsUpTo 4 [(0, .ref 0), (1, .int x1), (2, .int (x2 + 1)), (3, .int (x3 + 1))] [] X (0, 0) Q)))))) : Ev E m_ga_stepsUpTo 4 [(0, .ref 0), (1, .int x1), (2, .int x2), (3, .int x3)] [] X (0, 0) Q := by
  refine ev_iload_n (x := x3) (pc := 4) d_ga_stepsUpTo_4 rfl ?_
  refine ev_iconst (v := 4) (pc := 5) d_ga_stepsUpTo_5 kc_i_4 ?_
  refine ev_icmp_ge (pc := 6) (tgt := 28) d_ga_stepsUpTo_6 (by decide) (fun c_1 => ?_) (fun c_1 => ?_)
  · have h_2 := hh.1 c_1
    refine ev_iload_n (x := x2) (pc := 28) d_ga_stepsUpTo_28 rfl ?_
    exact ev_iret (pc := 29) ⟨Nat.le_of_ble_eq_true rfl, Nat.le_of_ble_eq_true rfl⟩ d_ga_stepsUpTo_29 rfl (vp_nar_int _) h_2
  · have h_3 := hh.2 c_1
    refine ev_aload_n (x := 0) (pc := 9) d_ga_stepsUpTo_9 rfl ?_
    refine ev_getR (pc := 10) d_ga_stepsUpTo_10 f_ga_16 (ly_at hX 0 rfl) gg_11 rfl (ly_rf hX 0 1 rfl) ?_
    refine ev_iload_n (x := x3) (pc := 13) d_ga_stepsUpTo_13 rfl ?_
    refine ev_ialdJ (v := (gI X 12 (Int32.toNatClampNeg x3))) (pc := 14) d_ga_stepsUpTo_14 (ly_at hX 12 rfl) h_3.1 rfl ?_
    refine ev_iload_n (x := x1) (pc := 15) d_ga_stepsUpTo_15 rfl ?_
    refine ev_icmp_gt (pc := 16) (tgt := 22) d_ga_stepsUpTo_16 (by decide) (fun c_4 => ?_) (fun c_4 => ?_)
    · have h_5 := h_3.2.1 c_4
      refine ev_iinc (v := (x3 + 1)) (L2 := [(0, .ref 0), (1, .int x1), (2, .int x2), (3, .int (x3 + 1))]) (pc := 22) d_ga_stepsUpTo_22 rfl (by rw [kc_i_1]) rfl (Nat.le_of_ble_eq_true rfl) rfl ?_
      refine ev_goto (pc := 25) (tgt := 4) d_ga_stepsUpTo_25 (by decide) ?_
      exact h_5
    · have h_6 := h_3.2.2 c_4
      refine ev_iinc (v := (x2 + 1)) (L2 := [(0, .ref 0), (1, .int x1), (2, .int (x2 + 1)), (3, .int x3)]) (pc := 19) d_ga_stepsUpTo_19 rfl (by rw [kc_i_1]) rfl (Nat.le_of_ble_eq_true rfl) rfl ?_
      refine ev_iinc (v := (x3 + 1)) (L2 := [(0, .ref 0), (1, .int x1), (2, .int (x2 + 1)), (3, .int (x3 + 1))]) (pc := 22) d_ga_stepsUpTo_22 rfl (by rw [kc_i_1]) rfl (Nat.le_of_ble_eq_true rfl) rfl ?_
      refine ev_goto (pc := 25) (tgt := 4) d_ga_stepsUpTo_25 (by decide) ?_
      exact h_6
theorem b_ga_step_0 {E : gp_E} {S : gp_S} {X : gp_H} {Q : Option Value → gp_H → Prop} {x1 : Int32} {x2 : Int32} (hX : Lay S X)  (hh : (((iw x1 0 3) = true → (((iw x2 1 9999) = true → ((x1 ≤ 0 → Ev E m_ga_step 44 [(0, .ref 0), (1, .int x1), (2, .int x2)] [] X (0, 0) Q) ∧ (¬ x1 ≤ 0 → (vp_in (x1 - 1) 4 ∧ (((gI X 12 (Int32.toNatClampNeg (x1 - 1))) < x2 → Ev E m_ga_step 44 [(0, .ref 0), (1, .int x1), (2, .int x2)] [] X (0, 0) Q) ∧ (¬ (gI X 12 (Int32.toNatClampNeg (x1 - 1))) < x2 → Q (some (.int (-2))) X)))))) ∧ ((iw x2 1 9999) = false → Q (some (.int (-2))) X))) ∧ ((iw x1 0 3) = false → Q (some (.int (-1))) X))) : Ev E m_ga_step 0 [(0, .ref 0), (1, .int x1), (2, .int x2)] [] X (0, 0) Q := by
  refine ev_iload_n (x := x1) (pc := 0) d_ga_step_0 rfl ?_
  refine ev_iconst (v := 0) (pc := 1) d_ga_step_1 kc_i_0 ?_
  refine ev_iconst (v := 3) (pc := 2) d_ga_step_2 kc_i_3 ?_
  refine ev_callS (z := m_ga_isWithin) (as := [.int x1, .int 0, .int 3]) (rest := []) (pc := 3) d_ga_step_3 l_ga_128 i_ga_isWithin o_ga_isWithin rfl rfl (Nat.le_of_ble_eq_true rfl) rfl (Nat.le_of_ble_eq_true rfl) ⟨Nat.le_of_ble_eq_true rfl, Nat.le_of_ble_eq_true rfl⟩ (s_ga_isWithin hX x1 0 3) (fun r X1 hq => ?_)
  obtain ⟨rfl, rfl⟩ := hq
  show Ev E m_ga_step 6 [(0, .ref 0), (1, .int x1), (2, .int x2)] [.int (bz (iw x1 0 3))] X (0, 0) Q
  refine ev_ifz_ne (pc := 6) (tgt := 11) d_ga_step_6 (by decide) (fun c_1 => ?_) (fun c_1 => ?_)
  · have h_2 := hh.1 c_1
    refine ev_iload_n (x := x2) (pc := 11) d_ga_step_11 rfl ?_
    refine ev_iconst (v := 1) (pc := 12) d_ga_step_12 kc_i_1 ?_
    refine ev_sipush (v := 9999) (pc := 13) d_ga_step_13 kc_s_9999 ?_
    refine ev_callS (z := m_ga_isWithin) (as := [.int x2, .int 1, .int 9999]) (rest := []) (pc := 16) d_ga_step_16 l_ga_128 i_ga_isWithin o_ga_isWithin rfl rfl (Nat.le_of_ble_eq_true rfl) rfl (Nat.le_of_ble_eq_true rfl) ⟨Nat.le_of_ble_eq_true rfl, Nat.le_of_ble_eq_true rfl⟩ (s_ga_isWithin hX x2 1 9999) (fun r X1 hq => ?_)
    obtain ⟨rfl, rfl⟩ := hq
    show Ev E m_ga_step 19 [(0, .ref 0), (1, .int x1), (2, .int x2)] [.int (bz (iw x2 1 9999))] X (0, 0) Q
    refine ev_ifz_ne (pc := 19) (tgt := 25) d_ga_step_19 (by decide) (fun c_4 => ?_) (fun c_4 => ?_)
    · have h_5 := h_2.1 c_4
      refine ev_iload_n (x := x1) (pc := 25) d_ga_step_25 rfl ?_
      refine ev_if_le (pc := 26) (tgt := 44) d_ga_step_26 (by decide) (fun c_7 => ?_) (fun c_7 => ?_)
      · have h_8 := h_5.1 c_7
        exact h_8
      · have h_9 := h_5.2 c_7
        refine ev_iload_n (x := x2) (pc := 29) d_ga_step_29 rfl ?_
        refine ev_aload_n (x := 0) (pc := 30) d_ga_step_30 rfl ?_
        refine ev_getR (pc := 31) d_ga_step_31 f_ga_16 (ly_at hX 0 rfl) gg_11 rfl (ly_rf hX 0 1 rfl) ?_
        refine ev_iload_n (x := x1) (pc := 34) d_ga_step_34 rfl ?_
        refine ev_iconst (v := 1) (pc := 35) d_ga_step_35 kc_i_1 ?_
        refine ev_isub (pc := 36) d_ga_step_36 ?_
        refine ev_ialdJ (v := (gI X 12 (Int32.toNatClampNeg (x1 - 1)))) (pc := 37) d_ga_step_37 (ly_at hX 12 rfl) h_9.1 rfl ?_
        refine ev_icmp_gt (pc := 38) (tgt := 44) d_ga_step_38 (by decide) (fun c_10 => ?_) (fun c_10 => ?_)
        · have h_11 := h_9.2.1 c_10
          exact h_11
        · have h_12 := h_9.2.2 c_10
          refine ev_bipush (v := (-2)) (pc := 41) d_ga_step_41 kc_b_m2 ?_
          exact ev_iret (pc := 43) ⟨Nat.le_of_ble_eq_true rfl, Nat.le_of_ble_eq_true rfl⟩ d_ga_step_43 rfl (vp_nar_int _) h_12
    · have h_6 := h_2.2 c_4
      refine ev_bipush (v := (-2)) (pc := 22) d_ga_step_22 kc_b_m2 ?_
      exact ev_iret (pc := 24) ⟨Nat.le_of_ble_eq_true rfl, Nat.le_of_ble_eq_true rfl⟩ d_ga_step_24 rfl (vp_nar_int _) h_6
  · have h_3 := hh.2 c_1
    refine ev_iconst (v := (-1)) (pc := 9) d_ga_step_9 kc_i_m1 ?_
    exact ev_iret (pc := 10) ⟨Nat.le_of_ble_eq_true rfl, Nat.le_of_ble_eq_true rfl⟩ d_ga_step_10 rfl (vp_nar_int _) h_3
theorem b_ga_step_44 {E : gp_E} {S : gp_S} {X : gp_H} {Q : Option Value → gp_H → Prop} {x1 : Int32} {x2 : Int32} (hX : Lay S X)  (hh : ((3 ≤ x1 → Ev E m_ga_step 64 [(0, .ref 0), (1, .int x1), (2, .int x2)] [] X (0, 0) Q) ∧ (¬ 3 ≤ x1 → (vp_in (x1 + 1) 4 ∧ ((x2 < (gI X 12 (Int32.toNatClampNeg (x1 + 1))) → Ev E m_ga_step 64 [(0, .ref 0), (1, .int x1), (2, .int x2)] [] X (0, 0) Q) ∧ (¬ x2 < (gI X 12 (Int32.toNatClampNeg (x1 + 1))) → Q (some (.int (-2))) X)))))) : Ev E m_ga_step 44 [(0, .ref 0), (1, .int x1), (2, .int x2)] [] X (0, 0) Q := by
  refine ev_iload_n (x := x1) (pc := 44) d_ga_step_44 rfl ?_
  refine ev_iconst (v := 3) (pc := 45) d_ga_step_45 kc_i_3 ?_
  refine ev_icmp_ge (pc := 46) (tgt := 64) d_ga_step_46 (by decide) (fun c_1 => ?_) (fun c_1 => ?_)
  · have h_2 := hh.1 c_1
    exact h_2
  · have h_3 := hh.2 c_1
    refine ev_iload_n (x := x2) (pc := 49) d_ga_step_49 rfl ?_
    refine ev_aload_n (x := 0) (pc := 50) d_ga_step_50 rfl ?_
    refine ev_getR (pc := 51) d_ga_step_51 f_ga_16 (ly_at hX 0 rfl) gg_11 rfl (ly_rf hX 0 1 rfl) ?_
    refine ev_iload_n (x := x1) (pc := 54) d_ga_step_54 rfl ?_
    refine ev_iconst (v := 1) (pc := 55) d_ga_step_55 kc_i_1 ?_
    refine ev_iadd (pc := 56) d_ga_step_56 ?_
    refine ev_ialdJ (v := (gI X 12 (Int32.toNatClampNeg (x1 + 1)))) (pc := 57) d_ga_step_57 (ly_at hX 12 rfl) h_3.1 rfl ?_
    refine ev_icmp_lt (pc := 58) (tgt := 64) d_ga_step_58 (by decide) (fun c_4 => ?_) (fun c_4 => ?_)
    · have h_5 := h_3.2.1 c_4
      exact h_5
    · have h_6 := h_3.2.2 c_4
      refine ev_bipush (v := (-2)) (pc := 61) d_ga_step_61 kc_b_m2 ?_
      exact ev_iret (pc := 63) ⟨Nat.le_of_ble_eq_true rfl, Nat.le_of_ble_eq_true rfl⟩ d_ga_step_63 rfl (vp_nar_int _) h_6
theorem b_ga_step_64 {E : gp_E} {S : gp_S} {X : gp_H} {Q : Option Value → gp_H → Prop} {x1 : Int32} {x2 : Int32} (hX : Lay S X)  (hh : (vp_in x1 4 ∧ Q (some (.int (gI X 12 (Int32.toNatClampNeg x1)))) (gp_sI X 12 (Int32.toNatClampNeg x1) x2))) : Ev E m_ga_step 64 [(0, .ref 0), (1, .int x1), (2, .int x2)] [] X (0, 0) Q := by
  refine ev_aload_n (x := 0) (pc := 64) d_ga_step_64 rfl ?_
  refine ev_getR (pc := 65) d_ga_step_65 f_ga_16 (ly_at hX 0 rfl) gg_11 rfl (ly_rf hX 0 1 rfl) ?_
  refine ev_iload_n (x := x1) (pc := 68) d_ga_step_68 rfl ?_
  refine ev_ialdJ (v := (gI X 12 (Int32.toNatClampNeg x1))) (pc := 69) d_ga_step_69 (ly_at hX 12 rfl) hh.1 rfl ?_
  refine ev_istore_n (L2 := [(0, .ref 0), (1, .int x1), (2, .int x2), (3, .int (gI X 12 (Int32.toNatClampNeg x1)))]) (pc := 70) d_ga_step_70 rfl (Nat.le_of_ble_eq_true rfl) rfl ?_
  refine ev_aload_n (x := 0) (pc := 71) d_ga_step_71 rfl ?_
  refine ev_getR (pc := 72) d_ga_step_72 f_ga_16 (ly_at hX 0 rfl) gg_11 rfl (ly_rf hX 0 1 rfl) ?_
  refine ev_iload_n (x := x1) (pc := 75) d_ga_step_75 rfl ?_
  refine ev_iload_n (x := x2) (pc := 76) d_ga_step_76 rfl ?_
  refine ev_iast (pc := 77) d_ga_step_77 (ly_at hX 12 rfl) hh.1 ?_
  refine ev_iload_n (x := (gI X 12 (Int32.toNatClampNeg x1))) (pc := 78) d_ga_step_78 rfl ?_
  exact ev_iret (pc := 79) ⟨Nat.le_of_ble_eq_true rfl, Nat.le_of_ble_eq_true rfl⟩ d_ga_step_79 rfl (vp_nar_int _) hh.2
theorem b_ga_modelAt_0 {E : gp_E} {S : gp_S} {X : gp_H} {Q : Option Value → gp_H → Prop} {x1 : Int32} (hX : Lay S X)  (hh : (((iw x1 0 ((gI X 0 4) - 1)) = false → Q (some (.null)) X) ∧ ((iw x1 0 ((gI X 0 4) - 1)) = true → (vp_in x1 12 ∧ ∃ r_4 k_9 : Nat, X.2.2.1 15 (Int32.toNatClampNeg x1) = some r_4 ∧ gp_at X r_4 (k_9, 0) ∧ (k_9 < 13 ∧ gp_gid k_9 = 7) ∧ Q (some (.ref r_4)) X)))) : Ev E m_ga_modelAt 0 [(0, .ref 0), (1, .int x1)] [] X (0, 0) Q := by
  refine ev_iload_n (x := x1) (pc := 0) d_ga_modelAt_0 rfl ?_
  refine ev_iconst (v := 0) (pc := 1) d_ga_modelAt_1 kc_i_0 ?_
  refine ev_aload_n (x := 0) (pc := 2) d_ga_modelAt_2 rfl ?_
  refine ev_getJ (v := (gI X 0 4)) (pc := 3) d_ga_modelAt_3 f_ga_187 (ly_at hX 0 rfl) gg_11 rfl rfl ?_
  refine ev_iconst (v := 1) (pc := 6) d_ga_modelAt_6 kc_i_1 ?_
  refine ev_isub (pc := 7) d_ga_modelAt_7 ?_
  refine ev_callS (z := m_ga_isWithin) (as := [.int x1, .int 0, .int ((gI X 0 4) - 1)]) (rest := []) (pc := 8) d_ga_modelAt_8 l_ga_128 i_ga_isWithin o_ga_isWithin rfl rfl (Nat.le_of_ble_eq_true rfl) rfl (Nat.le_of_ble_eq_true rfl) ⟨Nat.le_of_ble_eq_true rfl, Nat.le_of_ble_eq_true rfl⟩ (s_ga_isWithin hX x1 0 ((gI X 0 4) - 1)) (fun r X1 hq => ?_)
  obtain ⟨rfl, rfl⟩ := hq
  show Ev E m_ga_modelAt 11 [(0, .ref 0), (1, .int x1)] [.int (bz (iw x1 0 ((gI X 0 4) - 1)))] X (0, 0) Q
  refine ev_ifz_eq (pc := 11) (tgt := 23) d_ga_modelAt_11 (by decide) (fun c_1 => ?_) (fun c_1 => ?_)
  · have h_2 := hh.1 c_1
    refine ev_null (pc := 23) d_ga_modelAt_23 ?_
    exact ev_aret (pc := 24) ⟨Nat.le_of_ble_eq_true rfl, Nat.le_of_ble_eq_true rfl⟩ d_ga_modelAt_24 rfl (Or.inl ⟨_, rfl⟩) (Or.inl rfl) h_2
  · have h_3 := hh.2 c_1
    refine ev_aload_n (x := 0) (pc := 14) d_ga_modelAt_14 rfl ?_
    refine ev_getR (pc := 15) d_ga_modelAt_15 f_ga_29 (ly_at hX 0 rfl) gg_11 rfl (ly_rf hX 0 3 rfl) ?_
    refine ev_iload_n (x := x1) (pc := 18) d_ga_modelAt_18 rfl ?_
    obtain ⟨hv_7, r_4, k_9, hq_6, hb_5, hg_10, h_8⟩ := h_3
    refine ev_ald3 (pc := 19) d_ga_modelAt_19 (ly_at hX 15 rfl) hv_7 hq_6 ?_
    refine ev_goto (pc := 20) (tgt := 24) d_ga_modelAt_20 (by decide) ?_
    exact ev_aret (pc := 24) ⟨Nat.le_of_ble_eq_true rfl, Nat.le_of_ble_eq_true rfl⟩ d_ga_modelAt_24 rfl (Or.inl ⟨_, rfl⟩) (Or.inr ⟨_, rfl⟩) h_8
theorem b_ga_survey_0 {E : gp_E} {S : gp_S} {X : gp_H} {Q : Option Value → gp_H → Prop} {x1 : Int32} {x2 : Int32} (hX : Lay S X)  (hh : (∃ Qz_1, Ev E m_ga_homeAt 0 [(0, .ref 0), (1, .int x1)] [] X (0, 0) Qz_1 ∧ ∀ r X_4, Qz_1 r X_4 → ((∃ a_10 : Nat, r = some (.ref a_10) ∧ gp_at X_4 a_10 (3, 0) ∧ Lay S X_4 ∧ (∃ Qz_13, Ev E m_ga_addSurvey 0 [(0, .ref 0), (1, .ref a_10), (2, .int x2)] [] X_4 (0, 0) Qz_13 ∧ ∀ r X_16, Qz_13 r X_16 → ∃ v_22 : Int32, r = some (.int v_22) ∧ Lay S X_16 ∧ gp_at X_16 a_10 (3, 0) ∧ Q (some (.int v_22)) X_16)) ∨ (r = some .null ∧ Lay S X_4 ∧ Q (some (.int (-1))) X_4)))) : Ev E m_ga_survey 0 [(0, .ref 0), (1, .int x1), (2, .int x2)] [] X (0, 0) Q := by
  refine ev_aload_n (x := 0) (pc := 0) d_ga_survey_0 rfl ?_
  refine ev_iload_n (x := x1) (pc := 1) d_ga_survey_1 rfl ?_
  obtain ⟨Qz_1, hc_2, hk_3⟩ := hh
  refine ev_callV (z := m_ga_homeAt) (as := [.int x1]) (rest := []) (pc := 2) d_ga_survey_2 (ly_at hX 0 rfl) lt13_11 rfl l_ga_204 i_ga_homeAt v_ga_homeAt o_ga_homeAt rfl rfl (Nat.le_of_ble_eq_true rfl) rfl (Nat.le_of_ble_eq_true rfl) ⟨Nat.le_of_ble_eq_true rfl, Nat.le_of_ble_eq_true rfl⟩ hc_2 (fun r_5 X_4 hq_6 => ?_)
  rcases hk_3 _ _ hq_6 with ⟨a_10, rfl, hb_11, hX_8, h_7⟩ | ⟨rfl, hX_8, h_12⟩
  · show Ev E m_ga_survey 5 [(0, .ref 0), (1, .int x1), (2, .int x2)] [.ref a_10] X_4 (0, 0) Q
    refine ev_astore_n (L2 := [(0, .ref 0), (1, .int x1), (2, .int x2), (3, .ref a_10)]) (pc := 5) d_ga_survey_5 rfl (Nat.le_of_ble_eq_true rfl) rfl ?_
    refine ev_aload_n (x := a_10) (pc := 6) d_ga_survey_6 rfl ?_
    refine ev_ifnonnull (pc := 7) (tgt := 12) d_ga_survey_7 (by decide) ?_
    refine ev_aload_n (x := 0) (pc := 12) d_ga_survey_12 rfl ?_
    refine ev_aload_n (x := a_10) (pc := 13) d_ga_survey_13 rfl ?_
    refine ev_iload_n (x := x2) (pc := 14) d_ga_survey_14 rfl ?_
    obtain ⟨Qz_13, hc_14, hk_15⟩ := h_7
    refine ev_callV (z := m_ga_addSurvey) (as := [.ref a_10, .int x2]) (rest := []) (pc := 15) d_ga_survey_15 (ly_at hX_8 0 rfl) lt13_11 rfl l_ga_208 i_ga_addSurvey v_ga_addSurvey o_ga_addSurvey rfl rfl (Nat.le_of_ble_eq_true rfl) rfl (Nat.le_of_ble_eq_true rfl) ⟨Nat.le_of_ble_eq_true rfl, Nat.le_of_ble_eq_true rfl⟩ hc_14 (fun r_17 X_16 hq_18 => ?_)
    obtain ⟨v_22, rfl, hX_20, hm_21, h_19⟩ := hk_15 _ _ hq_18
    show Ev E m_ga_survey 18 [(0, .ref 0), (1, .int x1), (2, .int x2), (3, .ref a_10)] [.int v_22] X_16 (0, 0) Q
    exact ev_iret (pc := 18) ⟨Nat.le_of_ble_eq_true rfl, Nat.le_of_ble_eq_true rfl⟩ d_ga_survey_18 rfl (vp_nar_int _) h_19
  · show Ev E m_ga_survey 5 [(0, .ref 0), (1, .int x1), (2, .int x2)] [.null] X_4 (0, 0) Q
    refine ev_astore_nN (L2 := [(0, .ref 0), (1, .int x1), (2, .int x2), (3, .null)]) (pc := 5) d_ga_survey_5 rfl (Nat.le_of_ble_eq_true rfl) rfl ?_
    refine ev_aload_nN  (pc := 6) d_ga_survey_6 rfl ?_
    refine ev_ifnonnullN (pc := 7) d_ga_survey_7 ?_
    refine ev_iconst (v := (-1)) (pc := 10) d_ga_survey_10 kc_i_m1 ?_
    exact ev_iret (pc := 11) ⟨Nat.le_of_ble_eq_true rfl, Nat.le_of_ble_eq_true rfl⟩ d_ga_survey_11 rfl (vp_nar_int _) h_12
theorem b_ga_homeAt_0 {E : gp_E} {S : gp_S} {X : gp_H} {Q : Option Value → gp_H → Prop} {x1 : Int32} (hX : Lay S X)  (hh : (((iw x1 0 ((gI X 0 6) - 1)) = false → Q (some (.null)) X) ∧ ((iw x1 0 ((gI X 0 6) - 1)) = true → (vp_in x1 40 ∧ ∃ r_4 : Nat, X.2.2.1 16 (Int32.toNatClampNeg x1) = some r_4 ∧ gp_at X r_4 (3, 0) ∧ Q (some (.ref r_4)) X)))) : Ev E m_ga_homeAt 0 [(0, .ref 0), (1, .int x1)] [] X (0, 0) Q := by
  refine ev_iload_n (x := x1) (pc := 0) d_ga_homeAt_0 rfl ?_
  refine ev_iconst (v := 0) (pc := 1) d_ga_homeAt_1 kc_i_0 ?_
  refine ev_aload_n (x := 0) (pc := 2) d_ga_homeAt_2 rfl ?_
  refine ev_getJ (v := (gI X 0 6)) (pc := 3) d_ga_homeAt_3 f_ga_198 (ly_at hX 0 rfl) gg_11 rfl rfl ?_
  refine ev_iconst (v := 1) (pc := 6) d_ga_homeAt_6 kc_i_1 ?_
  refine ev_isub (pc := 7) d_ga_homeAt_7 ?_
  refine ev_callS (z := m_ga_isWithin) (as := [.int x1, .int 0, .int ((gI X 0 6) - 1)]) (rest := []) (pc := 8) d_ga_homeAt_8 l_ga_128 i_ga_isWithin o_ga_isWithin rfl rfl (Nat.le_of_ble_eq_true rfl) rfl (Nat.le_of_ble_eq_true rfl) ⟨Nat.le_of_ble_eq_true rfl, Nat.le_of_ble_eq_true rfl⟩ (s_ga_isWithin hX x1 0 ((gI X 0 6) - 1)) (fun r X1 hq => ?_)
  obtain ⟨rfl, rfl⟩ := hq
  show Ev E m_ga_homeAt 11 [(0, .ref 0), (1, .int x1)] [.int (bz (iw x1 0 ((gI X 0 6) - 1)))] X (0, 0) Q
  refine ev_ifz_eq (pc := 11) (tgt := 23) d_ga_homeAt_11 (by decide) (fun c_1 => ?_) (fun c_1 => ?_)
  · have h_2 := hh.1 c_1
    refine ev_null (pc := 23) d_ga_homeAt_23 ?_
    exact ev_aret (pc := 24) ⟨Nat.le_of_ble_eq_true rfl, Nat.le_of_ble_eq_true rfl⟩ d_ga_homeAt_24 rfl (Or.inl ⟨_, rfl⟩) (Or.inl rfl) h_2
  · have h_3 := hh.2 c_1
    refine ev_aload_n (x := 0) (pc := 14) d_ga_homeAt_14 rfl ?_
    refine ev_getR (pc := 15) d_ga_homeAt_15 f_ga_35 (ly_at hX 0 rfl) gg_11 rfl (ly_rf hX 0 5 rfl) ?_
    refine ev_iload_n (x := x1) (pc := 18) d_ga_homeAt_18 rfl ?_
    obtain ⟨hv_7, r_4, hq_6, hb_5, h_8⟩ := h_3
    refine ev_ald4 (pc := 19) d_ga_homeAt_19 (ly_at hX 16 rfl) hv_7 hq_6 ?_
    refine ev_goto (pc := 20) (tgt := 24) d_ga_homeAt_20 (by decide) ?_
    exact ev_aret (pc := 24) ⟨Nat.le_of_ble_eq_true rfl, Nat.le_of_ble_eq_true rfl⟩ d_ga_homeAt_24 rfl (Or.inl ⟨_, rfl⟩) (Or.inr ⟨_, rfl⟩) h_8
theorem b_ga_addSurvey_0 {E : gp_E} {S : gp_S} {X : gp_H} {Q : Option Value → gp_H → Prop} {a1 : Nat} {x2 : Int32} (hX : Lay S X) (ha1 : gp_at X a1 (3, 0)) (hh : ((x2 = 0 → Q (some (.int (-2))) X) ∧ (¬ x2 = 0 → (((x2 &&& ((((1 : Int32) <<< ((gI X 0 4) &&& 31)) - 1) ^^^ (-1))) = 0 → (((gI X 0 9) < 300 → (vp_in ((gI X 0 9) + 1) 301 ∧ Q (some (.int (gI (gp_sI (gp_sI (gp_sI (gp_sI X 0 9 ((gI X 0 9) + 1)) 17 (Int32.toNatClampNeg ((gI X 0 9) + 1)) x2) 18 (Int32.toNatClampNeg ((gI X 0 9) + 1)) (gI (gp_sI (gp_sI X 0 9 ((gI X 0 9) + 1)) 17 (Int32.toNatClampNeg ((gI X 0 9) + 1)) x2) a1 9)) a1 9 ((gI X 0 9) + 1)) 0 9))) (gp_sI (gp_sI (gp_sI (gp_sI X 0 9 ((gI X 0 9) + 1)) 17 (Int32.toNatClampNeg ((gI X 0 9) + 1)) x2) 18 (Int32.toNatClampNeg ((gI X 0 9) + 1)) (gI (gp_sI (gp_sI X 0 9 ((gI X 0 9) + 1)) 17 (Int32.toNatClampNeg ((gI X 0 9) + 1)) x2) a1 9)) a1 9 ((gI X 0 9) + 1)))) ∧ (¬ (gI X 0 9) < 300 → Q (some (.int (-4))) X))) ∧ (¬ (x2 &&& ((((1 : Int32) <<< ((gI X 0 4) &&& 31)) - 1) ^^^ (-1))) = 0 → Q (some (.int (-2))) X))))) : Ev E m_ga_addSurvey 0 [(0, .ref 0), (1, .ref a1), (2, .int x2)] [] X (0, 0) Q := by
  refine ev_iload_n (x := x2) (pc := 0) d_ga_addSurvey_0 rfl ?_
  refine ev_if_eq (pc := 1) (tgt := 15) d_ga_addSurvey_1 (by decide) (fun c_1 => ?_) (fun c_1 => ?_)
  · have h_2 := hh.1 c_1
    refine ev_bipush (v := (-2)) (pc := 15) d_ga_addSurvey_15 kc_b_m2 ?_
    exact ev_iret (pc := 17) ⟨Nat.le_of_ble_eq_true rfl, Nat.le_of_ble_eq_true rfl⟩ d_ga_addSurvey_17 rfl (vp_nar_int _) h_2
  · have h_3 := hh.2 c_1
    refine ev_iload_n (x := x2) (pc := 4) d_ga_addSurvey_4 rfl ?_
    refine ev_aload_n (x := 0) (pc := 5) d_ga_addSurvey_5 rfl ?_
    refine ev_callV (z := m_ga_allModels) (as := []) (rest := [.int x2]) (pc := 6) d_ga_addSurvey_6 (ly_at hX 0 rfl) lt13_11 rfl l_ga_499 i_ga_allModels v_ga_allModels o_ga_allModels rfl rfl (Nat.le_of_ble_eq_true rfl) rfl (Nat.le_of_ble_eq_true rfl) ⟨Nat.le_of_ble_eq_true rfl, Nat.le_of_ble_eq_true rfl⟩ (s_ga_allModels hX  ) (fun r X1 hq => ?_)
    obtain ⟨rfl, rfl⟩ := hq
    show Ev E m_ga_addSurvey 9 [(0, .ref 0), (1, .ref a1), (2, .int x2)] [.int (((1 : Int32) <<< ((gI X 0 4) &&& 31)) - 1), .int x2] X (0, 0) Q
    refine ev_iconst (v := (-1)) (pc := 9) d_ga_addSurvey_9 kc_i_m1 ?_
    refine ev_ixor (pc := 10) d_ga_addSurvey_10 ?_
    refine ev_iand (pc := 11) d_ga_addSurvey_11 ?_
    refine ev_if_eq (pc := 12) (tgt := 18) d_ga_addSurvey_12 (by decide) (fun c_4 => ?_) (fun c_4 => ?_)
    · have h_5 := h_3.1 c_4
      refine ev_aload_n (x := 0) (pc := 18) d_ga_addSurvey_18 rfl ?_
      refine ev_getJ (v := (gI X 0 9)) (pc := 19) d_ga_addSurvey_19 f_ga_313 (ly_at hX 0 rfl) gg_11 rfl rfl ?_
      refine ev_sipush (v := 300) (pc := 22) d_ga_addSurvey_22 kc_s_300 ?_
      refine ev_icmp_lt (pc := 25) (tgt := 31) d_ga_addSurvey_25 (by decide) (fun c_7 => ?_) (fun c_7 => ?_)
      · have h_8 := h_5.1 c_7
        refine ev_aload_n (x := 0) (pc := 31) d_ga_addSurvey_31 rfl ?_
        refine ev_dup (pc := 32) d_ga_addSurvey_32 rfl ?_
        refine ev_getJ (v := (gI X 0 9)) (pc := 33) d_ga_addSurvey_33 f_ga_313 (ly_at hX 0 rfl) gg_11 rfl rfl ?_
        refine ev_iconst (v := 1) (pc := 36) d_ga_addSurvey_36 kc_i_1 ?_
        refine ev_iadd (pc := 37) d_ga_addSurvey_37 ?_
        refine ev_putI (pc := 38) d_ga_addSurvey_38 f_ga_313 (ly_at hX 0 rfl) gg_11 rfl (Or.inl rfl) (vp_nar_int _) rfl ?_
        refine ev_aload_n (x := 0) (pc := 41) d_ga_addSurvey_41 rfl ?_
        refine ev_getR (pc := 42) d_ga_addSurvey_42 f_ga_39 (ly_at (ly_sI hX) 0 rfl) gg_11 rfl (ly_rf (ly_sI hX) 0 7 rfl) ?_
        refine ev_aload_n (x := 0) (pc := 45) d_ga_addSurvey_45 rfl ?_
        refine ev_getJ (v := ((gI X 0 9) + 1)) (pc := 46) d_ga_addSurvey_46 f_ga_313 (ly_at (ly_sI hX) 0 rfl) gg_11 rfl rfl ?_
        refine ev_iload_n (x := x2) (pc := 49) d_ga_addSurvey_49 rfl ?_
        refine ev_iast (pc := 50) d_ga_addSurvey_50 (ly_at (ly_sI hX) 17 rfl) h_8.1 ?_
        refine ev_aload_n (x := 0) (pc := 51) d_ga_addSurvey_51 rfl ?_
        refine ev_getR (pc := 52) d_ga_addSurvey_52 f_ga_42 (ly_at (ly_sI (ly_sI hX)) 0 rfl) gg_11 rfl (ly_rf (ly_sI (ly_sI hX)) 0 8 rfl) ?_
        refine ev_aload_n (x := 0) (pc := 55) d_ga_addSurvey_55 rfl ?_
        refine ev_getJ (v := ((gI X 0 9) + 1)) (pc := 56) d_ga_addSurvey_56 f_ga_313 (ly_at (ly_sI (ly_sI hX)) 0 rfl) gg_11 rfl rfl ?_
        refine ev_aload_n (x := a1) (pc := 59) d_ga_addSurvey_59 rfl ?_
        refine ev_getJ (v := (gI (gp_sI (gp_sI X 0 9 ((gI X 0 9) + 1)) 17 (Int32.toNatClampNeg ((gI X 0 9) + 1)) x2) a1 9)) (pc := 60) d_ga_addSurvey_60 f_ga_502 (at_sI (at_sI ha1)) gg_3 rfl rfl ?_
        refine ev_iast (pc := 63) d_ga_addSurvey_63 (ly_at (ly_sI (ly_sI hX)) 18 rfl) h_8.1 ?_
        refine ev_aload_n (x := a1) (pc := 64) d_ga_addSurvey_64 rfl ?_
        refine ev_aload_n (x := 0) (pc := 65) d_ga_addSurvey_65 rfl ?_
        refine ev_getJ (v := ((gI X 0 9) + 1)) (pc := 66) d_ga_addSurvey_66 f_ga_313 (ly_at (ly_sI (ly_sI (ly_sI hX))) 0 rfl) gg_11 rfl rfl ?_
        refine ev_putI (pc := 69) d_ga_addSurvey_69 f_ga_502 (at_sI (at_sI (at_sI ha1))) gg_3 rfl (Or.inl rfl) (vp_nar_int _) rfl ?_
        refine ev_aload_n (x := 0) (pc := 72) d_ga_addSurvey_72 rfl ?_
        refine ev_getJ (v := (gI (gp_sI (gp_sI (gp_sI (gp_sI X 0 9 ((gI X 0 9) + 1)) 17 (Int32.toNatClampNeg ((gI X 0 9) + 1)) x2) 18 (Int32.toNatClampNeg ((gI X 0 9) + 1)) (gI (gp_sI (gp_sI X 0 9 ((gI X 0 9) + 1)) 17 (Int32.toNatClampNeg ((gI X 0 9) + 1)) x2) a1 9)) a1 9 ((gI X 0 9) + 1)) 0 9)) (pc := 73) d_ga_addSurvey_73 f_ga_313 (ly_at (ly_sI (ly_sI (ly_sI (ly_sI hX)))) 0 rfl) gg_11 rfl rfl ?_
        exact ev_iret (pc := 76) ⟨Nat.le_of_ble_eq_true rfl, Nat.le_of_ble_eq_true rfl⟩ d_ga_addSurvey_76 rfl (vp_nar_int _) h_8.2
      · have h_9 := h_5.2 c_7
        refine ev_bipush (v := (-4)) (pc := 28) d_ga_addSurvey_28 kc_b_m4 ?_
        exact ev_iret (pc := 30) ⟨Nat.le_of_ble_eq_true rfl, Nat.le_of_ble_eq_true rfl⟩ d_ga_addSurvey_30 rfl (vp_nar_int _) h_9
    · have h_6 := h_3.2 c_4
      refine ev_bipush (v := (-2)) (pc := 15) d_ga_addSurvey_15 kc_b_m2 ?_
      exact ev_iret (pc := 17) ⟨Nat.le_of_ble_eq_true rfl, Nat.le_of_ble_eq_true rfl⟩ d_ga_addSurvey_17 rfl (vp_nar_int _) h_6
theorem b_ga_lay_0 {E : gp_E} {S : gp_S} {X : gp_H} {Q : Option Value → gp_H → Prop} {x1 : Int32} {x2 : Int32} {x3 : Int32} {x4 : Int32} (hX : Lay S X)  (hh : (∃ Qz_1, Ev E m_ga_homeAt 0 [(0, .ref 0), (1, .int x1)] [] X (0, 0) Qz_1 ∧ ∀ r X_4, Qz_1 r X_4 → ((∃ a_10 : Nat, r = some (.ref a_10) ∧ gp_at X_4 a_10 (3, 0) ∧ Lay S X_4 ∧ (((iw x2 0 2) = false → Q (some (.int (-2))) X_4) ∧ ((iw x2 0 2) = true → (((iw x3 0 2) = true → (∃ Qz_19, Ev E m_sh_isMissing 0 [(0, .ref 48), (1, .int x2)] [] X_4 (0, 0) Qz_19 ∧ ∀ r X_22, Qz_19 r X_22 → ∃ v_28 : Int32, r = some (.int v_28) ∧ Lay S X_22 ∧ gp_at X_22 a_10 (3, 0) ∧ ((v_28 = 0 → (vp_in x2 3 ∧ (((gI X_22 49 (Int32.toNatClampNeg x2)) = x3 → (vp_in x2 3 ∧ (((iw x4 0 ((gI X_22 50 (Int32.toNatClampNeg x2)) - 1)) = true → (vp_in x2 3 ∧ ∃ r_38 : Nat, X_22.2.2.1 51 (Int32.toNatClampNeg x2) = some r_38 ∧ gp_at X_22 r_38 (13, 40) ∧ (vp_in x4 40 ∧ (∃ Qz_43, Ev E m_ga_addSurvey 0 [(0, .ref 0), (1, .ref a_10), (2, .int (gI X_22 r_38 (Int32.toNatClampNeg x4)))] [] X_22 (0, 0) Qz_43 ∧ ∀ r X_46, Qz_43 r X_46 → ∃ v_52 : Int32, r = some (.int v_52) ∧ Lay S X_46 ∧ gp_at X_46 a_10 (3, 0) ∧ Q (some (.int v_52)) X_46)))) ∧ ((iw x4 0 ((gI X_22 50 (Int32.toNatClampNeg x2)) - 1)) = false → Q (some (.int (-12))) X_22)))) ∧ (¬ (gI X_22 49 (Int32.toNatClampNeg x2)) = x3 → Q (some (.int (-13))) X_22)))) ∧ (¬ v_28 = 0 → Q (some (.int (-11))) X_22)))) ∧ ((iw x3 0 2) = false → Q (some (.int (-2))) X_4))))) ∨ (r = some .null ∧ Lay S X_4 ∧ Q (some (.int (-1))) X_4)))) : Ev E m_ga_lay 0 [(0, .ref 0), (1, .int x1), (2, .int x2), (3, .int x3), (4, .int x4)] [] X (0, 0) Q := by
  refine ev_aload_n (x := 0) (pc := 0) d_ga_lay_0 rfl ?_
  refine ev_iload_n (x := x1) (pc := 1) d_ga_lay_1 rfl ?_
  obtain ⟨Qz_1, hc_2, hk_3⟩ := hh
  refine ev_callV (z := m_ga_homeAt) (as := [.int x1]) (rest := []) (pc := 2) d_ga_lay_2 (ly_at hX 0 rfl) lt13_11 rfl l_ga_204 i_ga_homeAt v_ga_homeAt o_ga_homeAt rfl rfl (Nat.le_of_ble_eq_true rfl) rfl (Nat.le_of_ble_eq_true rfl) ⟨Nat.le_of_ble_eq_true rfl, Nat.le_of_ble_eq_true rfl⟩ hc_2 (fun r_5 X_4 hq_6 => ?_)
  rcases hk_3 _ _ hq_6 with ⟨a_10, rfl, hb_11, hX_8, h_7⟩ | ⟨rfl, hX_8, h_12⟩
  · show Ev E m_ga_lay 5 [(0, .ref 0), (1, .int x1), (2, .int x2), (3, .int x3), (4, .int x4)] [.ref a_10] X_4 (0, 0) Q
    refine ev_astore (L2 := [(0, .ref 0), (1, .int x1), (2, .int x2), (3, .int x3), (4, .int x4), (5, .ref a_10)]) (pc := 5) d_ga_lay_5 rfl (Nat.le_of_ble_eq_true rfl) rfl ?_
    refine ev_aload (x := a_10) (pc := 7) d_ga_lay_7 rfl ?_
    refine ev_ifnonnull (pc := 9) (tgt := 14) d_ga_lay_9 (by decide) ?_
    refine ev_aload_n (x := 0) (pc := 14) d_ga_lay_14 rfl ?_
    refine ev_getR (pc := 15) d_ga_lay_15 f_ga_83 (ly_at hX_8 0 rfl) gg_11 rfl (ly_rf hX_8 0 19 rfl) ?_
    refine ev_iload_n (x := x2) (pc := 18) d_ga_lay_18 rfl ?_
    refine ev_callV (z := m_sh_has) (as := [.int x2]) (rest := []) (pc := 19) d_ga_lay_19 (ly_at hX_8 48 rfl) lt13_9 rfl l_ga_212 i_sh_has v_sh_has o_sh_has rfl rfl (Nat.le_of_ble_eq_true rfl) rfl (Nat.le_of_ble_eq_true rfl) ⟨Nat.le_of_ble_eq_true rfl, Nat.le_of_ble_eq_true rfl⟩ (s_sh_has hX_8 x2 ) (fun r X1 hq => ?_)
    obtain ⟨rfl, rfl⟩ := hq
    show Ev E m_ga_lay 22 [(0, .ref 0), (1, .int x1), (2, .int x2), (3, .int x3), (4, .int x4), (5, .ref a_10)] [.int (bz (iw x2 0 2))] X_4 (0, 0) Q
    refine ev_ifz_eq (pc := 22) (tgt := 34) d_ga_lay_22 (by decide) (fun c_13 => ?_) (fun c_13 => ?_)
    · have h_14 := h_7.1 c_13
      refine ev_bipush (v := (-2)) (pc := 34) d_ga_lay_34 kc_b_m2 ?_
      exact ev_iret (pc := 36) ⟨Nat.le_of_ble_eq_true rfl, Nat.le_of_ble_eq_true rfl⟩ d_ga_lay_36 rfl (vp_nar_int _) h_14
    · have h_15 := h_7.2 c_13
      refine ev_iload_n (x := x3) (pc := 25) d_ga_lay_25 rfl ?_
      refine ev_iconst (v := 0) (pc := 26) d_ga_lay_26 kc_i_0 ?_
      refine ev_iconst (v := 2) (pc := 27) d_ga_lay_27 kc_i_2 ?_
      refine ev_callS (z := m_ga_isWithin) (as := [.int x3, .int 0, .int 2]) (rest := []) (pc := 28) d_ga_lay_28 l_ga_128 i_ga_isWithin o_ga_isWithin rfl rfl (Nat.le_of_ble_eq_true rfl) rfl (Nat.le_of_ble_eq_true rfl) ⟨Nat.le_of_ble_eq_true rfl, Nat.le_of_ble_eq_true rfl⟩ (s_ga_isWithin hX_8 x3 0 2) (fun r X1 hq => ?_)
      obtain ⟨rfl, rfl⟩ := hq
      show Ev E m_ga_lay 31 [(0, .ref 0), (1, .int x1), (2, .int x2), (3, .int x3), (4, .int x4), (5, .ref a_10)] [.int (bz (iw x3 0 2))] X_4 (0, 0) Q
      refine ev_ifz_ne (pc := 31) (tgt := 37) d_ga_lay_31 (by decide) (fun c_16 => ?_) (fun c_16 => ?_)
      · have h_17 := h_15.1 c_16
        refine ev_aload_n (x := 0) (pc := 37) d_ga_lay_37 rfl ?_
        refine ev_getR (pc := 38) d_ga_lay_38 f_ga_83 (ly_at hX_8 0 rfl) gg_11 rfl (ly_rf hX_8 0 19 rfl) ?_
        refine ev_iload_n (x := x2) (pc := 41) d_ga_lay_41 rfl ?_
        obtain ⟨Qz_19, hc_20, hk_21⟩ := h_17
        refine ev_callV (z := m_sh_isMissing) (as := [.int x2]) (rest := []) (pc := 42) d_ga_lay_42 (ly_at hX_8 48 rfl) lt13_9 rfl l_ga_215 i_sh_isMissing v_sh_isMissing o_sh_isMissing rfl rfl (Nat.le_of_ble_eq_true rfl) rfl (Nat.le_of_ble_eq_true rfl) ⟨Nat.le_of_ble_eq_true rfl, Nat.le_of_ble_eq_true rfl⟩ hc_20 (fun r_23 X_22 hq_24 => ?_)
        obtain ⟨v_28, rfl, hX_26, hm_27, h_25⟩ := hk_21 _ _ hq_24
        show Ev E m_ga_lay 45 [(0, .ref 0), (1, .int x1), (2, .int x2), (3, .int x3), (4, .int x4), (5, .ref a_10)] [.int v_28] X_22 (0, 0) Q
        refine ev_if_eq (pc := 45) (tgt := 51) d_ga_lay_45 (by decide) (fun c_29 => ?_) (fun c_29 => ?_)
        · have h_30 := h_25.1 c_29
          refine ev_aload_n (x := 0) (pc := 51) d_ga_lay_51 rfl ?_
          refine ev_getR (pc := 52) d_ga_lay_52 f_ga_83 (ly_at hX_26 0 rfl) gg_11 rfl (ly_rf hX_26 0 19 rfl) ?_
          refine ev_getR (pc := 55) d_ga_lay_55 f_ga_218 (ly_at hX_26 48 rfl) gg_9 rfl (ly_rf hX_26 48 0 rfl) ?_
          refine ev_iload_n (x := x2) (pc := 58) d_ga_lay_58 rfl ?_
          refine ev_ialdJ (v := (gI X_22 49 (Int32.toNatClampNeg x2))) (pc := 59) d_ga_lay_59 (ly_at hX_26 49 rfl) h_30.1 rfl ?_
          refine ev_iload_n (x := x3) (pc := 60) d_ga_lay_60 rfl ?_
          refine ev_icmp_eq (pc := 61) (tgt := 67) d_ga_lay_61 (by decide) (fun c_32 => ?_) (fun c_32 => ?_)
          · have h_33 := h_30.2.1 c_32
            refine ev_aload_n (x := 0) (pc := 67) d_ga_lay_67 rfl ?_
            refine ev_getR (pc := 68) d_ga_lay_68 f_ga_83 (ly_at hX_26 0 rfl) gg_11 rfl (ly_rf hX_26 0 19 rfl) ?_
            refine ev_iload_n (x := x2) (pc := 71) d_ga_lay_71 rfl ?_
            refine ev_iload (x := x4) (pc := 72) d_ga_lay_72 rfl ?_
            refine ev_callV (z := m_sh_hasItem) (as := [.int x2, .int x4]) (rest := []) (pc := 74) d_ga_lay_74 (ly_at hX_26 48 rfl) lt13_9 rfl l_ga_221 i_sh_hasItem v_sh_hasItem o_sh_hasItem rfl rfl (Nat.le_of_ble_eq_true rfl) rfl (Nat.le_of_ble_eq_true rfl) ⟨Nat.le_of_ble_eq_true rfl, Nat.le_of_ble_eq_true rfl⟩ (s_sh_hasItem hX_26 x2 x4  h_33.1) (fun r X1 hq => ?_)
            obtain ⟨rfl, rfl⟩ := hq
            show Ev E m_ga_lay 77 [(0, .ref 0), (1, .int x1), (2, .int x2), (3, .int x3), (4, .int x4), (5, .ref a_10)] [.int (bz (iw x4 0 ((gI X_22 50 (Int32.toNatClampNeg x2)) - 1)))] X_22 (0, 0) Q
            refine ev_ifz_ne (pc := 77) (tgt := 83) d_ga_lay_77 (by decide) (fun c_35 => ?_) (fun c_35 => ?_)
            · have h_36 := h_33.2.1 c_35
              refine ev_aload_n (x := 0) (pc := 83) d_ga_lay_83 rfl ?_
              refine ev_aload (x := a_10) (pc := 84) d_ga_lay_84 rfl ?_
              refine ev_aload_n (x := 0) (pc := 86) d_ga_lay_86 rfl ?_
              refine ev_getR (pc := 87) d_ga_lay_87 f_ga_83 (ly_at hX_26 0 rfl) gg_11 rfl (ly_rf hX_26 0 19 rfl) ?_
              refine ev_getR (pc := 90) d_ga_lay_90 f_ga_225 (ly_at hX_26 48 rfl) gg_9 rfl (ly_rf hX_26 48 2 rfl) ?_
              refine ev_iload_n (x := x2) (pc := 93) d_ga_lay_93 rfl ?_
              obtain ⟨hv_41, r_38, hq_40, hb_39, h_42⟩ := h_36
              refine ev_ald5 (pc := 94) d_ga_lay_94 (ly_at hX_26 51 rfl) hv_41 hq_40 ?_
              refine ev_iload (x := x4) (pc := 95) d_ga_lay_95 rfl ?_
              refine ev_ialdJ (v := (gI X_22 r_38 (Int32.toNatClampNeg x4))) (pc := 97) d_ga_lay_97 hb_39 h_42.1 rfl ?_
              obtain ⟨Qz_43, hc_44, hk_45⟩ := h_42.2
              refine ev_callV (z := m_ga_addSurvey) (as := [.ref a_10, .int (gI X_22 r_38 (Int32.toNatClampNeg x4))]) (rest := []) (pc := 98) d_ga_lay_98 (ly_at hX_26 0 rfl) lt13_11 rfl l_ga_208 i_ga_addSurvey v_ga_addSurvey o_ga_addSurvey rfl rfl (Nat.le_of_ble_eq_true rfl) rfl (Nat.le_of_ble_eq_true rfl) ⟨Nat.le_of_ble_eq_true rfl, Nat.le_of_ble_eq_true rfl⟩ hc_44 (fun r_47 X_46 hq_48 => ?_)
              obtain ⟨v_52, rfl, hX_50, hm_51, h_49⟩ := hk_45 _ _ hq_48
              show Ev E m_ga_lay 101 [(0, .ref 0), (1, .int x1), (2, .int x2), (3, .int x3), (4, .int x4), (5, .ref a_10)] [.int v_52] X_46 (0, 0) Q
              exact ev_iret (pc := 101) ⟨Nat.le_of_ble_eq_true rfl, Nat.le_of_ble_eq_true rfl⟩ d_ga_lay_101 rfl (vp_nar_int _) h_49
            · have h_37 := h_33.2.2 c_35
              refine ev_bipush (v := (-12)) (pc := 80) d_ga_lay_80 kc_b_m12 ?_
              exact ev_iret (pc := 82) ⟨Nat.le_of_ble_eq_true rfl, Nat.le_of_ble_eq_true rfl⟩ d_ga_lay_82 rfl (vp_nar_int _) h_37
          · have h_34 := h_30.2.2 c_32
            refine ev_bipush (v := (-13)) (pc := 64) d_ga_lay_64 kc_b_m13 ?_
            exact ev_iret (pc := 66) ⟨Nat.le_of_ble_eq_true rfl, Nat.le_of_ble_eq_true rfl⟩ d_ga_lay_66 rfl (vp_nar_int _) h_34
        · have h_31 := h_25.2 c_29
          refine ev_bipush (v := (-11)) (pc := 48) d_ga_lay_48 kc_b_m11 ?_
          exact ev_iret (pc := 50) ⟨Nat.le_of_ble_eq_true rfl, Nat.le_of_ble_eq_true rfl⟩ d_ga_lay_50 rfl (vp_nar_int _) h_31
      · have h_18 := h_15.2 c_16
        refine ev_bipush (v := (-2)) (pc := 34) d_ga_lay_34 kc_b_m2 ?_
        exact ev_iret (pc := 36) ⟨Nat.le_of_ble_eq_true rfl, Nat.le_of_ble_eq_true rfl⟩ d_ga_lay_36 rfl (vp_nar_int _) h_18
  · show Ev E m_ga_lay 5 [(0, .ref 0), (1, .int x1), (2, .int x2), (3, .int x3), (4, .int x4)] [.null] X_4 (0, 0) Q
    refine ev_astoreN (L2 := [(0, .ref 0), (1, .int x1), (2, .int x2), (3, .int x3), (4, .int x4), (5, .null)]) (pc := 5) d_ga_lay_5 rfl (Nat.le_of_ble_eq_true rfl) rfl ?_
    refine ev_aloadN  (pc := 7) d_ga_lay_7 rfl ?_
    refine ev_ifnonnullN (pc := 9) d_ga_lay_9 ?_
    refine ev_iconst (v := (-1)) (pc := 12) d_ga_lay_12 kc_i_m1 ?_
    exact ev_iret (pc := 13) ⟨Nat.le_of_ble_eq_true rfl, Nat.le_of_ble_eq_true rfl⟩ d_ga_lay_13 rfl (vp_nar_int _) h_12
theorem b_ga_known_0 {E : gp_E} {S : gp_S} {X : gp_H} {Q : Option Value → gp_H → Prop} {x1 : Int32} {x2 : Int32} (hX : Lay S X)  (hh : (∃ Qz_1, Ev E m_ga_homeAt 0 [(0, .ref 0), (1, .int x1)] [] X (0, 0) Qz_1 ∧ ∀ r X_4, Qz_1 r X_4 → ((∃ a_10 : Nat, r = some (.ref a_10) ∧ gp_at X_4 a_10 (3, 0) ∧ Lay S X_4 ∧ ((0 ≤ x2 → (∃ Qz_16, Ev E m_ga_knownSet 0 [(0, .ref 0), (1, .ref a_10), (2, .int x2)] [] X_4 (0, 0) Qz_16 ∧ ∀ r X_19, Qz_16 r X_19 → ∃ v_25 : Int32, r = some (.int v_25) ∧ Lay S X_19 ∧ gp_at X_19 a_10 (3, 0) ∧ Q (some (.int v_25)) X_19)) ∧ (¬ 0 ≤ x2 → Q (some (.int (-5))) X_4))) ∨ (r = some .null ∧ Lay S X_4 ∧ Q (some (.int (-5))) X_4)))) : Ev E m_ga_known 0 [(0, .ref 0), (1, .int x1), (2, .int x2)] [] X (0, 0) Q := by
  refine ev_aload_n (x := 0) (pc := 0) d_ga_known_0 rfl ?_
  refine ev_iload_n (x := x1) (pc := 1) d_ga_known_1 rfl ?_
  obtain ⟨Qz_1, hc_2, hk_3⟩ := hh
  refine ev_callV (z := m_ga_homeAt) (as := [.int x1]) (rest := []) (pc := 2) d_ga_known_2 (ly_at hX 0 rfl) lt13_11 rfl l_ga_204 i_ga_homeAt v_ga_homeAt o_ga_homeAt rfl rfl (Nat.le_of_ble_eq_true rfl) rfl (Nat.le_of_ble_eq_true rfl) ⟨Nat.le_of_ble_eq_true rfl, Nat.le_of_ble_eq_true rfl⟩ hc_2 (fun r_5 X_4 hq_6 => ?_)
  rcases hk_3 _ _ hq_6 with ⟨a_10, rfl, hb_11, hX_8, h_7⟩ | ⟨rfl, hX_8, h_12⟩
  · show Ev E m_ga_known 5 [(0, .ref 0), (1, .int x1), (2, .int x2)] [.ref a_10] X_4 (0, 0) Q
    refine ev_astore_n (L2 := [(0, .ref 0), (1, .int x1), (2, .int x2), (3, .ref a_10)]) (pc := 5) d_ga_known_5 rfl (Nat.le_of_ble_eq_true rfl) rfl ?_
    refine ev_aload_n (x := a_10) (pc := 6) d_ga_known_6 rfl ?_
    refine ev_ifnull (pc := 7) d_ga_known_7 ?_
    refine ev_iload_n (x := x2) (pc := 10) d_ga_known_10 rfl ?_
    refine ev_if_ge (pc := 11) (tgt := 17) d_ga_known_11 (by decide) (fun c_13 => ?_) (fun c_13 => ?_)
    · have h_14 := h_7.1 c_13
      refine ev_aload_n (x := 0) (pc := 17) d_ga_known_17 rfl ?_
      refine ev_aload_n (x := a_10) (pc := 18) d_ga_known_18 rfl ?_
      refine ev_iload_n (x := x2) (pc := 19) d_ga_known_19 rfl ?_
      obtain ⟨Qz_16, hc_17, hk_18⟩ := h_14
      refine ev_callV (z := m_ga_knownSet) (as := [.ref a_10, .int x2]) (rest := []) (pc := 20) d_ga_known_20 (ly_at hX_8 0 rfl) lt13_11 rfl l_ga_229 i_ga_knownSet v_ga_knownSet o_ga_knownSet rfl rfl (Nat.le_of_ble_eq_true rfl) rfl (Nat.le_of_ble_eq_true rfl) ⟨Nat.le_of_ble_eq_true rfl, Nat.le_of_ble_eq_true rfl⟩ hc_17 (fun r_20 X_19 hq_21 => ?_)
      obtain ⟨v_25, rfl, hX_23, hm_24, h_22⟩ := hk_18 _ _ hq_21
      show Ev E m_ga_known 23 [(0, .ref 0), (1, .int x1), (2, .int x2), (3, .ref a_10)] [.int v_25] X_19 (0, 0) Q
      exact ev_iret (pc := 23) ⟨Nat.le_of_ble_eq_true rfl, Nat.le_of_ble_eq_true rfl⟩ d_ga_known_23 rfl (vp_nar_int _) h_22
    · have h_15 := h_7.2 c_13
      refine ev_bipush (v := (-5)) (pc := 14) d_ga_known_14 kc_b_m5 ?_
      exact ev_iret (pc := 16) ⟨Nat.le_of_ble_eq_true rfl, Nat.le_of_ble_eq_true rfl⟩ d_ga_known_16 rfl (vp_nar_int _) h_15
  · show Ev E m_ga_known 5 [(0, .ref 0), (1, .int x1), (2, .int x2)] [.null] X_4 (0, 0) Q
    refine ev_astore_nN (L2 := [(0, .ref 0), (1, .int x1), (2, .int x2), (3, .null)]) (pc := 5) d_ga_known_5 rfl (Nat.le_of_ble_eq_true rfl) rfl ?_
    refine ev_aload_nN  (pc := 6) d_ga_known_6 rfl ?_
    refine ev_ifnullN (pc := 7) (tgt := 14) d_ga_known_7 (by decide) ?_
    refine ev_bipush (v := (-5)) (pc := 14) d_ga_known_14 kc_b_m5 ?_
    exact ev_iret (pc := 16) ⟨Nat.le_of_ble_eq_true rfl, Nat.le_of_ble_eq_true rfl⟩ d_ga_known_16 rfl (vp_nar_int _) h_12
theorem b_ga_knownSet_0 {E : gp_E} {S : gp_S} {X : gp_H} {Q : Option Value → gp_H → Prop} {a1 : Nat} {x2 : Int32} (hX : Lay S X) (ha1 : gp_at X a1 (3, 0)) (hh : Ev E m_ga_knownSet 8 [(0, .ref 0), (1, .ref a1), (2, .int x2), (3, .int (gI X a1 9)), (4, .int 0)] [] X (0, 0) Q) : Ev E m_ga_knownSet 0 [(0, .ref 0), (1, .ref a1), (2, .int x2)] [] X (0, 0) Q := by
  refine ev_aload_n (x := a1) (pc := 0) d_ga_knownSet_0 rfl ?_
  refine ev_getJ (v := (gI X a1 9)) (pc := 1) d_ga_knownSet_1 f_ga_502 ha1 gg_3 rfl rfl ?_
  refine ev_istore_n (L2 := [(0, .ref 0), (1, .ref a1), (2, .int x2), (3, .int (gI X a1 9))]) (pc := 4) d_ga_knownSet_4 rfl (Nat.le_of_ble_eq_true rfl) rfl ?_
  refine ev_iconst (v := 0) (pc := 5) d_ga_knownSet_5 kc_i_0 ?_
  refine ev_istore (L2 := [(0, .ref 0), (1, .ref a1), (2, .int x2), (3, .int (gI X a1 9)), (4, .int 0)]) (pc := 6) d_ga_knownSet_6 rfl (Nat.le_of_ble_eq_true rfl) rfl ?_
  exact hh
theorem b_ga_knownSet_8 {E : gp_E} {S : gp_S} {X : gp_H} {Q : Option Value → gp_H → Prop} {a1 : Nat} {x2 : Int32} {x3 : Int32} {x4 : Int32} (hX : Lay S X) (ha1 : gp_at X a1 (3, 0)) (hh : ((300 ≤ x4 → Ev E m_ga_knownSet 34 [(0, .ref 0), (1, .ref a1), (2, .int x2), (3, .int x3), (4, .int x4)] [] X (0, 0) Q) ∧ (¬ 300 ≤ x4 → ((x3 ≤ x2 → Ev E m_ga_knownSet 34 [(0, .ref 0), (1, .ref a1), (2, .int x2), (3, .int x3), (4, .int x4)] [] X (0, 0) Q) ∧ (¬ x3 ≤ x2 → (vp_in x3 301 ∧ Ev E m_ga_knownSet 8 [(0, .ref 0), (1, .ref a1), (2, .int x2), (3, .int (gI X 18 (Int32.toNatClampNeg x3))), (4, .int (x4 + 1))] [] X (0, 0) Q)))))) : Ev E m_ga_knownSet 8 [(0, .ref 0), (1, .ref a1), (2, .int x2), (3, .int x3), (4, .int x4)] [] X (0, 0) Q := by
  refine ev_iload (x := x4) (pc := 8) d_ga_knownSet_8 rfl ?_
  refine ev_sipush (v := 300) (pc := 10) d_ga_knownSet_10 kc_s_300 ?_
  refine ev_icmp_ge (pc := 13) (tgt := 34) d_ga_knownSet_13 (by decide) (fun c_1 => ?_) (fun c_1 => ?_)
  · have h_2 := hh.1 c_1
    exact h_2
  · have h_3 := hh.2 c_1
    refine ev_iload_n (x := x3) (pc := 16) d_ga_knownSet_16 rfl ?_
    refine ev_iload_n (x := x2) (pc := 17) d_ga_knownSet_17 rfl ?_
    refine ev_icmp_le (pc := 18) (tgt := 34) d_ga_knownSet_18 (by decide) (fun c_4 => ?_) (fun c_4 => ?_)
    · have h_5 := h_3.1 c_4
      exact h_5
    · have h_6 := h_3.2 c_4
      refine ev_aload_n (x := 0) (pc := 21) d_ga_knownSet_21 rfl ?_
      refine ev_getR (pc := 22) d_ga_knownSet_22 f_ga_42 (ly_at hX 0 rfl) gg_11 rfl (ly_rf hX 0 8 rfl) ?_
      refine ev_iload_n (x := x3) (pc := 25) d_ga_knownSet_25 rfl ?_
      refine ev_ialdJ (v := (gI X 18 (Int32.toNatClampNeg x3))) (pc := 26) d_ga_knownSet_26 (ly_at hX 18 rfl) h_6.1 rfl ?_
      refine ev_istore_n (L2 := [(0, .ref 0), (1, .ref a1), (2, .int x2), (3, .int (gI X 18 (Int32.toNatClampNeg x3))), (4, .int x4)]) (pc := 27) d_ga_knownSet_27 rfl (Nat.le_of_ble_eq_true rfl) rfl ?_
      refine ev_iinc (v := (x4 + 1)) (L2 := [(0, .ref 0), (1, .ref a1), (2, .int x2), (3, .int (gI X 18 (Int32.toNatClampNeg x3))), (4, .int (x4 + 1))]) (pc := 28) d_ga_knownSet_28 rfl (by rw [kc_i_1]) rfl (Nat.le_of_ble_eq_true rfl) rfl ?_
      refine ev_goto (pc := 31) (tgt := 8) d_ga_knownSet_31 (by decide) ?_
      exact h_6.2
theorem b_ga_knownSet_34 {E : gp_E} {S : gp_S} {X : gp_H} {Q : Option Value → gp_H → Prop} {a1 : Nat} {x2 : Int32} {x3 : Int32} {x4 : Int32} (hX : Lay S X) (ha1 : gp_at X a1 (3, 0)) (hh : ((¬ x3 = 0 → (vp_in x3 301 ∧ Q (some (.int (gI X 17 (Int32.toNatClampNeg x3)))) X)) ∧ (x3 = 0 → Q (some (.int (((1 : Int32) <<< ((gI X 0 4) &&& 31)) - 1))) X))) : Ev E m_ga_knownSet 34 [(0, .ref 0), (1, .ref a1), (2, .int x2), (3, .int x3), (4, .int x4)] [] X (0, 0) Q := by
  refine ev_iload_n (x := x3) (pc := 34) d_ga_knownSet_34 rfl ?_
  refine ev_if_ne (pc := 35) (tgt := 45) d_ga_knownSet_35 (by decide) (fun c_1 => ?_) (fun c_1 => ?_)
  · have h_2 := hh.1 c_1
    refine ev_aload_n (x := 0) (pc := 45) d_ga_knownSet_45 rfl ?_
    refine ev_getR (pc := 46) d_ga_knownSet_46 f_ga_39 (ly_at hX 0 rfl) gg_11 rfl (ly_rf hX 0 7 rfl) ?_
    refine ev_iload_n (x := x3) (pc := 49) d_ga_knownSet_49 rfl ?_
    refine ev_ialdJ (v := (gI X 17 (Int32.toNatClampNeg x3))) (pc := 50) d_ga_knownSet_50 (ly_at hX 17 rfl) h_2.1 rfl ?_
    exact ev_iret (pc := 51) ⟨Nat.le_of_ble_eq_true rfl, Nat.le_of_ble_eq_true rfl⟩ d_ga_knownSet_51 rfl (vp_nar_int _) h_2.2
  · have h_3 := hh.2 c_1
    refine ev_aload_n (x := 0) (pc := 38) d_ga_knownSet_38 rfl ?_
    refine ev_callV (z := m_ga_allModels) (as := []) (rest := []) (pc := 39) d_ga_knownSet_39 (ly_at hX 0 rfl) lt13_11 rfl l_ga_499 i_ga_allModels v_ga_allModels o_ga_allModels rfl rfl (Nat.le_of_ble_eq_true rfl) rfl (Nat.le_of_ble_eq_true rfl) ⟨Nat.le_of_ble_eq_true rfl, Nat.le_of_ble_eq_true rfl⟩ (s_ga_allModels hX  ) (fun r X1 hq => ?_)
    obtain ⟨rfl, rfl⟩ := hq
    show Ev E m_ga_knownSet 42 [(0, .ref 0), (1, .ref a1), (2, .int x2), (3, .int x3), (4, .int x4)] [.int (((1 : Int32) <<< ((gI X 0 4) &&& 31)) - 1)] X (0, 0) Q
    refine ev_goto (pc := 42) (tgt := 51) d_ga_knownSet_42 (by decide) ?_
    exact ev_iret (pc := 51) ⟨Nat.le_of_ble_eq_true rfl, Nat.le_of_ble_eq_true rfl⟩ d_ga_knownSet_51 rfl (vp_nar_int _) h_3
theorem b_ga_need_0 {E : gp_E} {S : gp_S} {X : gp_H} {Q : Option Value → gp_H → Prop} {x1 : Int32} {x2 : Int32} {x3 : Int32} {x4 : Int32} (hX : Lay S X)  (hh : (((iw x1 0 ((gI X 23 1) - 1)) = false → Q (some (.int (-5))) X) ∧ ((iw x1 0 ((gI X 23 1) - 1)) = true → (((iw x2 0 4) = false → Q (some (.int (-5))) X) ∧ ((iw x2 0 4) = true → ((x3 < 0 → Q (some (.int (-5))) X) ∧ (¬ x3 < 0 → (((ifl x4) = true → (vp_in x1 7 ∧ ((¬ x4 = 1 → (∃ Qz_16, Ev E m_ga_needOf 0 [(0, .ref 0), (1, .int (gI X 24 (Int32.toNatClampNeg x1))), (2, .int x2), (3, .int x3), (4, .int 0)] [] X (0, 0) Qz_16 ∧ ∀ r X_19, Qz_16 r X_19 → ∃ v_24 : Int32, r = some (.int v_24) ∧ Lay S X_19 ∧ Q (some (.int v_24)) X_19)) ∧ (x4 = 1 → (∃ Qz_25, Ev E m_ga_needOf 0 [(0, .ref 0), (1, .int (gI X 24 (Int32.toNatClampNeg x1))), (2, .int x2), (3, .int x3), (4, .int 1)] [] X (0, 0) Qz_25 ∧ ∀ r X_28, Qz_25 r X_28 → ∃ v_33 : Int32, r = some (.int v_33) ∧ Lay S X_28 ∧ Q (some (.int v_33)) X_28))))) ∧ ((ifl x4) = false → Q (some (.int (-5))) X))))))))) : Ev E m_ga_need 0 [(0, .ref 0), (1, .int x1), (2, .int x2), (3, .int x3), (4, .int x4)] [] X (0, 0) Q := by
  refine ev_aload_n (x := 0) (pc := 0) d_ga_need_0 rfl ?_
  refine ev_getR (pc := 1) d_ga_need_1 f_ga_62 (ly_at hX 0 rfl) gg_11 rfl (ly_rf hX 0 15 rfl) ?_
  refine ev_iload_n (x := x1) (pc := 4) d_ga_need_4 rfl ?_
  refine ev_callV (z := m_se_has) (as := [.int x1]) (rest := []) (pc := 5) d_ga_need_5 (ly_at hX 23 rfl) lt13_8 rfl l_ga_232 i_se_has v_se_has o_se_has rfl rfl (Nat.le_of_ble_eq_true rfl) rfl (Nat.le_of_ble_eq_true rfl) ⟨Nat.le_of_ble_eq_true rfl, Nat.le_of_ble_eq_true rfl⟩ (s_se_has hX x1 ) (fun r X1 hq => ?_)
  obtain ⟨rfl, rfl⟩ := hq
  show Ev E m_ga_need 8 [(0, .ref 0), (1, .int x1), (2, .int x2), (3, .int x3), (4, .int x4)] [.int (bz (iw x1 0 ((gI X 23 1) - 1)))] X (0, 0) Q
  refine ev_ifz_eq (pc := 8) (tgt := 30) d_ga_need_8 (by decide) (fun c_1 => ?_) (fun c_1 => ?_)
  · have h_2 := hh.1 c_1
    refine ev_bipush (v := (-5)) (pc := 30) d_ga_need_30 kc_b_m5 ?_
    exact ev_iret (pc := 32) ⟨Nat.le_of_ble_eq_true rfl, Nat.le_of_ble_eq_true rfl⟩ d_ga_need_32 rfl (vp_nar_int _) h_2
  · have h_3 := hh.2 c_1
    refine ev_iload_n (x := x2) (pc := 11) d_ga_need_11 rfl ?_
    refine ev_callS (z := m_ga_isJet) (as := [.int x2]) (rest := []) (pc := 12) d_ga_need_12 l_ga_184 i_ga_isJet o_ga_isJet rfl rfl (Nat.le_of_ble_eq_true rfl) rfl (Nat.le_of_ble_eq_true rfl) ⟨Nat.le_of_ble_eq_true rfl, Nat.le_of_ble_eq_true rfl⟩ (s_ga_isJet hX x2) (fun r X1 hq => ?_)
    obtain ⟨rfl, rfl⟩ := hq
    show Ev E m_ga_need 15 [(0, .ref 0), (1, .int x1), (2, .int x2), (3, .int x3), (4, .int x4)] [.int (bz (iw x2 0 4))] X (0, 0) Q
    refine ev_ifz_eq (pc := 15) (tgt := 30) d_ga_need_15 (by decide) (fun c_4 => ?_) (fun c_4 => ?_)
    · have h_5 := h_3.1 c_4
      refine ev_bipush (v := (-5)) (pc := 30) d_ga_need_30 kc_b_m5 ?_
      exact ev_iret (pc := 32) ⟨Nat.le_of_ble_eq_true rfl, Nat.le_of_ble_eq_true rfl⟩ d_ga_need_32 rfl (vp_nar_int _) h_5
    · have h_6 := h_3.2 c_4
      refine ev_iload_n (x := x3) (pc := 18) d_ga_need_18 rfl ?_
      refine ev_if_lt (pc := 19) (tgt := 30) d_ga_need_19 (by decide) (fun c_7 => ?_) (fun c_7 => ?_)
      · have h_8 := h_6.1 c_7
        refine ev_bipush (v := (-5)) (pc := 30) d_ga_need_30 kc_b_m5 ?_
        exact ev_iret (pc := 32) ⟨Nat.le_of_ble_eq_true rfl, Nat.le_of_ble_eq_true rfl⟩ d_ga_need_32 rfl (vp_nar_int _) h_8
      · have h_9 := h_6.2 c_7
        refine ev_iload (x := x4) (pc := 22) d_ga_need_22 rfl ?_
        refine ev_callS (z := m_ga_isFlag) (as := [.int x4]) (rest := []) (pc := 24) d_ga_need_24 l_ga_95 i_ga_isFlag o_ga_isFlag rfl rfl (Nat.le_of_ble_eq_true rfl) rfl (Nat.le_of_ble_eq_true rfl) ⟨Nat.le_of_ble_eq_true rfl, Nat.le_of_ble_eq_true rfl⟩ (s_ga_isFlag hX x4) (fun r X1 hq => ?_)
        obtain ⟨rfl, rfl⟩ := hq
        show Ev E m_ga_need 27 [(0, .ref 0), (1, .int x1), (2, .int x2), (3, .int x3), (4, .int x4)] [.int (bz (ifl x4))] X (0, 0) Q
        refine ev_ifz_ne (pc := 27) (tgt := 33) d_ga_need_27 (by decide) (fun c_10 => ?_) (fun c_10 => ?_)
        · have h_11 := h_9.1 c_10
          refine ev_aload_n (x := 0) (pc := 33) d_ga_need_33 rfl ?_
          refine ev_aload_n (x := 0) (pc := 34) d_ga_need_34 rfl ?_
          refine ev_getR (pc := 35) d_ga_need_35 f_ga_62 (ly_at hX 0 rfl) gg_11 rfl (ly_rf hX 0 15 rfl) ?_
          refine ev_getR (pc := 38) d_ga_need_38 f_ga_233 (ly_at hX 23 rfl) gg_8 rfl (ly_rf hX 23 2 rfl) ?_
          refine ev_iload_n (x := x1) (pc := 41) d_ga_need_41 rfl ?_
          refine ev_ialdJ (v := (gI X 24 (Int32.toNatClampNeg x1))) (pc := 42) d_ga_need_42 (ly_at hX 24 rfl) h_11.1 rfl ?_
          refine ev_iload_n (x := x2) (pc := 43) d_ga_need_43 rfl ?_
          refine ev_iload_n (x := x3) (pc := 44) d_ga_need_44 rfl ?_
          refine ev_iload (x := x4) (pc := 45) d_ga_need_45 rfl ?_
          refine ev_iconst (v := 1) (pc := 47) d_ga_need_47 kc_i_1 ?_
          refine ev_icmp_ne (pc := 48) (tgt := 55) d_ga_need_48 (by decide) (fun c_13 => ?_) (fun c_13 => ?_)
          · have h_14 := h_11.2.1 c_13
            refine ev_iconst (v := 0) (pc := 55) d_ga_need_55 kc_i_0 ?_
            obtain ⟨Qz_16, hc_17, hk_18⟩ := h_14
            refine ev_callV (z := m_ga_needOf) (as := [.int (gI X 24 (Int32.toNatClampNeg x1)), .int x2, .int x3, .int 0]) (rest := []) (pc := 56) d_ga_need_56 (ly_at hX 0 rfl) lt13_11 rfl l_ga_236 i_ga_needOf v_ga_needOf o_ga_needOf rfl rfl (Nat.le_of_ble_eq_true rfl) rfl (Nat.le_of_ble_eq_true rfl) ⟨Nat.le_of_ble_eq_true rfl, Nat.le_of_ble_eq_true rfl⟩ hc_17 (fun r_20 X_19 hq_21 => ?_)
            obtain ⟨v_24, rfl, hX_23, h_22⟩ := hk_18 _ _ hq_21
            show Ev E m_ga_need 59 [(0, .ref 0), (1, .int x1), (2, .int x2), (3, .int x3), (4, .int x4)] [.int v_24] X_19 (0, 0) Q
            exact ev_iret (pc := 59) ⟨Nat.le_of_ble_eq_true rfl, Nat.le_of_ble_eq_true rfl⟩ d_ga_need_59 rfl (vp_nar_int _) h_22
          · have h_15 := h_11.2.2 c_13
            refine ev_iconst (v := 1) (pc := 51) d_ga_need_51 kc_i_1 ?_
            refine ev_goto (pc := 52) (tgt := 56) d_ga_need_52 (by decide) ?_
            obtain ⟨Qz_25, hc_26, hk_27⟩ := h_15
            refine ev_callV (z := m_ga_needOf) (as := [.int (gI X 24 (Int32.toNatClampNeg x1)), .int x2, .int x3, .int 1]) (rest := []) (pc := 56) d_ga_need_56 (ly_at hX 0 rfl) lt13_11 rfl l_ga_236 i_ga_needOf v_ga_needOf o_ga_needOf rfl rfl (Nat.le_of_ble_eq_true rfl) rfl (Nat.le_of_ble_eq_true rfl) ⟨Nat.le_of_ble_eq_true rfl, Nat.le_of_ble_eq_true rfl⟩ hc_26 (fun r_29 X_28 hq_30 => ?_)
            obtain ⟨v_33, rfl, hX_32, h_31⟩ := hk_27 _ _ hq_30
            show Ev E m_ga_need 59 [(0, .ref 0), (1, .int x1), (2, .int x2), (3, .int x3), (4, .int x4)] [.int v_33] X_28 (0, 0) Q
            exact ev_iret (pc := 59) ⟨Nat.le_of_ble_eq_true rfl, Nat.le_of_ble_eq_true rfl⟩ d_ga_need_59 rfl (vp_nar_int _) h_31
        · have h_12 := h_9.2 c_10
          refine ev_bipush (v := (-5)) (pc := 30) d_ga_need_30 kc_b_m5 ?_
          exact ev_iret (pc := 32) ⟨Nat.le_of_ble_eq_true rfl, Nat.le_of_ble_eq_true rfl⟩ d_ga_need_32 rfl (vp_nar_int _) h_12
theorem b_ga_needOf_0 {E : gp_E} {S : gp_S} {X : gp_H} {Q : Option Value → gp_H → Prop} {x1 : Int32} {x2 : Int32} {x3 : Int32} {x4 : Int32} (hX : Lay S X)  (hh : Ev E m_ga_needOf 6 [(0, .ref 0), (1, .int x1), (2, .int x2), (3, .int x3), (4, .int x4), (5, .int 0), (6, .int 0)] [] X (0, 0) Q) : Ev E m_ga_needOf 0 [(0, .ref 0), (1, .int x1), (2, .int x2), (3, .int x3), (4, .int x4)] [] X (0, 0) Q := by
  refine ev_iconst (v := 0) (pc := 0) d_ga_needOf_0 kc_i_0 ?_
  refine ev_istore (L2 := [(0, .ref 0), (1, .int x1), (2, .int x2), (3, .int x3), (4, .int x4), (5, .int 0)]) (pc := 1) d_ga_needOf_1 rfl (Nat.le_of_ble_eq_true rfl) rfl ?_
  refine ev_iconst (v := 0) (pc := 3) d_ga_needOf_3 kc_i_0 ?_
  refine ev_istore (L2 := [(0, .ref 0), (1, .int x1), (2, .int x2), (3, .int x3), (4, .int x4), (5, .int 0), (6, .int 0)]) (pc := 4) d_ga_needOf_4 rfl (Nat.le_of_ble_eq_true rfl) rfl ?_
  exact hh
theorem b_ga_needOf_6 {E : gp_E} {S : gp_S} {X : gp_H} {Q : Option Value → gp_H → Prop} {x1 : Int32} {x2 : Int32} {x3 : Int32} {x4 : Int32} {x5 : Int32} {x6 : Int32} (hX : Lay S X)  (hh : (((gI X 0 6) ≤ x6 → Q (some (.int x5)) X) ∧ (¬ (gI X 0 6) ≤ x6 → (vp_in x6 40 ∧ ∃ r_4 : Nat, X.2.2.1 16 (Int32.toNatClampNeg x6) = some r_4 ∧ gp_at X r_4 (3, 0) ∧ (((gb x1 (gI X r_4 0)) = false → Ev E m_ga_needOf 6 [(0, .ref 0), (1, .int x1), (2, .int x2), (3, .int x3), (4, .int x4), (5, .int x5), (6, .int (x6 + 1))] [] X (0, 0) Q) ∧ ((gb x1 (gI X r_4 0)) = true → (vp_in x6 40 ∧ ∃ r_12 : Nat, X.2.2.1 16 (Int32.toNatClampNeg x6) = some r_12 ∧ gp_at X r_12 (3, 0) ∧ (∃ Qz_17, Ev E m_ga_knownSet 0 [(0, .ref 0), (1, .ref r_12), (2, .int x3)] [] X (0, 0) Qz_17 ∧ ∀ r X_20, Qz_17 r X_20 → ∃ v_25 : Int32, r = some (.int v_25) ∧ Lay S X_20 ∧ (∃ Qz_26, Ev E m_ga_takenBy 0 [(0, .ref 0), (1, .int v_25), (2, .int x2), (3, .int x4)] [] X_20 (0, 0) Qz_26 ∧ ∀ r X_29, Qz_26 r X_29 → ∃ v_34 : Int32, r = some (.int v_34) ∧ Lay S X_29 ∧ Ev E m_ga_needOf 6 [(0, .ref 0), (1, .int x1), (2, .int x2), (3, .int x3), (4, .int x4), (5, .int (x5 + v_34)), (6, .int (x6 + 1))] [] X_29 (0, 0) Q))))))))) : Ev E m_ga_needOf 6 [(0, .ref 0), (1, .int x1), (2, .int x2), (3, .int x3), (4, .int x4), (5, .int x5), (6, .int x6)] [] X (0, 0) Q := by
  refine ev_iload (x := x6) (pc := 6) d_ga_needOf_6 rfl ?_
  refine ev_aload_n (x := 0) (pc := 8) d_ga_needOf_8 rfl ?_
  refine ev_getJ (v := (gI X 0 6)) (pc := 9) d_ga_needOf_9 f_ga_198 (ly_at hX 0 rfl) gg_11 rfl rfl ?_
  refine ev_icmp_ge (pc := 12) (tgt := 62) d_ga_needOf_12 (by decide) (fun c_1 => ?_) (fun c_1 => ?_)
  · have h_2 := hh.1 c_1
    refine ev_iload (x := x5) (pc := 62) d_ga_needOf_62 rfl ?_
    exact ev_iret (pc := 64) ⟨Nat.le_of_ble_eq_true rfl, Nat.le_of_ble_eq_true rfl⟩ d_ga_needOf_64 rfl (vp_nar_int _) h_2
  · have h_3 := hh.2 c_1
    refine ev_iload_n (x := x1) (pc := 15) d_ga_needOf_15 rfl ?_
    refine ev_aload_n (x := 0) (pc := 16) d_ga_needOf_16 rfl ?_
    refine ev_getR (pc := 17) d_ga_needOf_17 f_ga_35 (ly_at hX 0 rfl) gg_11 rfl (ly_rf hX 0 5 rfl) ?_
    refine ev_iload (x := x6) (pc := 20) d_ga_needOf_20 rfl ?_
    obtain ⟨hv_7, r_4, hq_6, hb_5, h_8⟩ := h_3
    refine ev_ald4 (pc := 22) d_ga_needOf_22 (ly_at hX 16 rfl) hv_7 hq_6 ?_
    refine ev_getJ (v := (gI X r_4 0)) (pc := 23) d_ga_needOf_23 f_ga_240 hb_5 gg_3 rfl rfl ?_
    refine ev_callS (z := m_ga_hasBit) (as := [.int x1, .int (gI X r_4 0)]) (rest := []) (pc := 26) d_ga_needOf_26 l_ga_351 i_ga_hasBit o_ga_hasBit rfl rfl (Nat.le_of_ble_eq_true rfl) rfl (Nat.le_of_ble_eq_true rfl) ⟨Nat.le_of_ble_eq_true rfl, Nat.le_of_ble_eq_true rfl⟩ (s_ga_hasBit hX x1 (gI X r_4 0)) (fun r X1 hq => ?_)
    obtain ⟨rfl, rfl⟩ := hq
    show Ev E m_ga_needOf 29 [(0, .ref 0), (1, .int x1), (2, .int x2), (3, .int x3), (4, .int x4), (5, .int x5), (6, .int x6)] [.int (bz (gb x1 (gI X r_4 0)))] X (0, 0) Q
    refine ev_ifz_eq (pc := 29) (tgt := 56) d_ga_needOf_29 (by decide) (fun c_9 => ?_) (fun c_9 => ?_)
    · have h_10 := h_8.1 c_9
      refine ev_iinc (v := (x6 + 1)) (L2 := [(0, .ref 0), (1, .int x1), (2, .int x2), (3, .int x3), (4, .int x4), (5, .int x5), (6, .int (x6 + 1))]) (pc := 56) d_ga_needOf_56 rfl (by rw [kc_i_1]) rfl (Nat.le_of_ble_eq_true rfl) rfl ?_
      refine ev_goto (pc := 59) (tgt := 6) d_ga_needOf_59 (by decide) ?_
      exact h_10
    · have h_11 := h_8.2 c_9
      refine ev_iload (x := x5) (pc := 32) d_ga_needOf_32 rfl ?_
      refine ev_aload_n (x := 0) (pc := 34) d_ga_needOf_34 rfl ?_
      refine ev_aload_n (x := 0) (pc := 35) d_ga_needOf_35 rfl ?_
      refine ev_aload_n (x := 0) (pc := 36) d_ga_needOf_36 rfl ?_
      refine ev_getR (pc := 37) d_ga_needOf_37 f_ga_35 (ly_at hX 0 rfl) gg_11 rfl (ly_rf hX 0 5 rfl) ?_
      refine ev_iload (x := x6) (pc := 40) d_ga_needOf_40 rfl ?_
      obtain ⟨hv_15, r_12, hq_14, hb_13, h_16⟩ := h_11
      refine ev_ald4 (pc := 42) d_ga_needOf_42 (ly_at hX 16 rfl) hv_15 hq_14 ?_
      refine ev_iload_n (x := x3) (pc := 43) d_ga_needOf_43 rfl ?_
      obtain ⟨Qz_17, hc_18, hk_19⟩ := h_16
      refine ev_callV (z := m_ga_knownSet) (as := [.ref r_12, .int x3]) (rest := [.ref 0, .int x5]) (pc := 44) d_ga_needOf_44 (ly_at hX 0 rfl) lt13_11 rfl l_ga_229 i_ga_knownSet v_ga_knownSet o_ga_knownSet rfl rfl (Nat.le_of_ble_eq_true rfl) rfl (Nat.le_of_ble_eq_true rfl) ⟨Nat.le_of_ble_eq_true rfl, Nat.le_of_ble_eq_true rfl⟩ hc_18 (fun r_21 X_20 hq_22 => ?_)
      obtain ⟨v_25, rfl, hX_24, h_23⟩ := hk_19 _ _ hq_22
      show Ev E m_ga_needOf 47 [(0, .ref 0), (1, .int x1), (2, .int x2), (3, .int x3), (4, .int x4), (5, .int x5), (6, .int x6)] [.int v_25, .ref 0, .int x5] X_20 (0, 0) Q
      refine ev_iload_n (x := x2) (pc := 47) d_ga_needOf_47 rfl ?_
      refine ev_iload (x := x4) (pc := 48) d_ga_needOf_48 rfl ?_
      obtain ⟨Qz_26, hc_27, hk_28⟩ := h_23
      refine ev_callV (z := m_ga_takenBy) (as := [.int v_25, .int x2, .int x4]) (rest := [.int x5]) (pc := 50) d_ga_needOf_50 (ly_at hX_24 0 rfl) lt13_11 rfl l_ga_505 i_ga_takenBy v_ga_takenBy o_ga_takenBy rfl rfl (Nat.le_of_ble_eq_true rfl) rfl (Nat.le_of_ble_eq_true rfl) ⟨Nat.le_of_ble_eq_true rfl, Nat.le_of_ble_eq_true rfl⟩ hc_27 (fun r_30 X_29 hq_31 => ?_)
      obtain ⟨v_34, rfl, hX_33, h_32⟩ := hk_28 _ _ hq_31
      show Ev E m_ga_needOf 53 [(0, .ref 0), (1, .int x1), (2, .int x2), (3, .int x3), (4, .int x4), (5, .int x5), (6, .int x6)] [.int v_34, .int x5] X_29 (0, 0) Q
      refine ev_iadd (pc := 53) d_ga_needOf_53 ?_
      refine ev_istore (L2 := [(0, .ref 0), (1, .int x1), (2, .int x2), (3, .int x3), (4, .int x4), (5, .int (x5 + v_34)), (6, .int x6)]) (pc := 54) d_ga_needOf_54 rfl (Nat.le_of_ble_eq_true rfl) rfl ?_
      refine ev_iinc (v := (x6 + 1)) (L2 := [(0, .ref 0), (1, .int x1), (2, .int x2), (3, .int x3), (4, .int x4), (5, .int (x5 + v_34)), (6, .int (x6 + 1))]) (pc := 56) d_ga_needOf_56 rfl (by rw [kc_i_1]) rfl (Nat.le_of_ble_eq_true rfl) rfl ?_
      refine ev_goto (pc := 59) (tgt := 6) d_ga_needOf_59 (by decide) ?_
      exact h_32
theorem b_ga_takenBy_0 {E : gp_E} {S : gp_S} {X : gp_H} {Q : Option Value → gp_H → Prop} {x1 : Int32} {x2 : Int32} {x3 : Int32} (hX : Lay S X)  (hh : Ev E m_ga_takenBy 10 [(0, .ref 0), (1, .int x1), (2, .int x2), (3, .int x3), (4, .int 9), (5, .int 0), (6, .int 0)] [] X (0, 0) Q) : Ev E m_ga_takenBy 0 [(0, .ref 0), (1, .int x1), (2, .int x2), (3, .int x3)] [] X (0, 0) Q := by
  refine ev_bipush (v := 9) (pc := 0) d_ga_takenBy_0 kc_b_9 ?_
  refine ev_istore (L2 := [(0, .ref 0), (1, .int x1), (2, .int x2), (3, .int x3), (4, .int 9)]) (pc := 2) d_ga_takenBy_2 rfl (Nat.le_of_ble_eq_true rfl) rfl ?_
  refine ev_iconst (v := 0) (pc := 4) d_ga_takenBy_4 kc_i_0 ?_
  refine ev_istore (L2 := [(0, .ref 0), (1, .int x1), (2, .int x2), (3, .int x3), (4, .int 9), (5, .int 0)]) (pc := 5) d_ga_takenBy_5 rfl (Nat.le_of_ble_eq_true rfl) rfl ?_
  refine ev_iconst (v := 0) (pc := 7) d_ga_takenBy_7 kc_i_0 ?_
  refine ev_istore (L2 := [(0, .ref 0), (1, .int x1), (2, .int x2), (3, .int x3), (4, .int 9), (5, .int 0), (6, .int 0)]) (pc := 8) d_ga_takenBy_8 rfl (Nat.le_of_ble_eq_true rfl) rfl ?_
  exact hh
theorem b_ga_takenBy_10 {E : gp_E} {S : gp_S} {X : gp_H} {Q : Option Value → gp_H → Prop} {x1 : Int32} {x2 : Int32} {x3 : Int32} {x4 : Int32} {x5 : Int32} {x6 : Int32} (hX : Lay S X)  (hh : (((gI X 0 4) ≤ x6 → ((x3 = 0 → Q (some (.int x4)) X) ∧ (¬ x3 = 0 → Q (some (.int x5)) X))) ∧ (¬ (gI X 0 4) ≤ x6 → (((gb x1 x6) = true → (vp_in x6 12 ∧ ∃ r_10 k_15 : Nat, X.2.2.1 15 (Int32.toNatClampNeg x6) = some r_10 ∧ gp_at X r_10 (k_15, 0) ∧ (k_15 < 13 ∧ gp_gid k_15 = 7) ∧ (∃ Qz_17, ((k_15 = 1 → Ev E m_ri_takes 0 [(0, .ref r_10), (1, .int x2)] [] X (0, 0) Qz_17) ∧ (k_15 = 2 → Ev E m_ri_takes 0 [(0, .ref r_10), (1, .int x2)] [] X (0, 0) Qz_17) ∧ (k_15 = 6 → Ev E m_ri_takes 0 [(0, .ref r_10), (1, .int x2)] [] X (0, 0) Qz_17) ∧ (k_15 = 7 → Ev E m_ri_takes 0 [(0, .ref r_10), (1, .int x2)] [] X (0, 0) Qz_17)) ∧ ∀ r X_20, Qz_17 r X_20 → ∃ v_25 : Int32, r = some (.int v_25) ∧ Lay S X_20 ∧ gp_at X_20 r_10 (k_15, 0) ∧ Ev E m_ga_takenBy 10 [(0, .ref 0), (1, .int x1), (2, .int x2), (3, .int x3), (4, .int (if v_25 < x4 then v_25 else x4)), (5, .int (if x5 < v_25 then v_25 else x5)), (6, .int (x6 + 1))] [] X_20 (0, 0) Q))) ∧ ((gb x1 x6) = false → Ev E m_ga_takenBy 10 [(0, .ref 0), (1, .int x1), (2, .int x2), (3, .int x3), (4, .int x4), (5, .int x5), (6, .int (x6 + 1))] [] X (0, 0) Q))))) : Ev E m_ga_takenBy 10 [(0, .ref 0), (1, .int x1), (2, .int x2), (3, .int x3), (4, .int x4), (5, .int x5), (6, .int x6)] [] X (0, 0) Q := by
  refine ev_iload (x := x6) (pc := 10) d_ga_takenBy_10 rfl ?_
  refine ev_aload_n (x := 0) (pc := 12) d_ga_takenBy_12 rfl ?_
  refine ev_getJ (v := (gI X 0 4)) (pc := 13) d_ga_takenBy_13 f_ga_187 (ly_at hX 0 rfl) gg_11 rfl rfl ?_
  refine ev_icmp_ge (pc := 16) (tgt := 68) d_ga_takenBy_16 (by decide) (fun c_1 => ?_) (fun c_1 => ?_)
  · have h_2 := hh.1 c_1
    refine ev_iload_n (x := x3) (pc := 68) d_ga_takenBy_68 rfl ?_
    refine ev_if_eq (pc := 69) (tgt := 77) d_ga_takenBy_69 (by decide) (fun c_4 => ?_) (fun c_4 => ?_)
    · have h_5 := h_2.1 c_4
      refine ev_iload (x := x4) (pc := 77) d_ga_takenBy_77 rfl ?_
      exact ev_iret (pc := 79) ⟨Nat.le_of_ble_eq_true rfl, Nat.le_of_ble_eq_true rfl⟩ d_ga_takenBy_79 rfl (vp_nar_int _) h_5
    · have h_6 := h_2.2 c_4
      refine ev_iload (x := x5) (pc := 72) d_ga_takenBy_72 rfl ?_
      refine ev_goto (pc := 74) (tgt := 79) d_ga_takenBy_74 (by decide) ?_
      exact ev_iret (pc := 79) ⟨Nat.le_of_ble_eq_true rfl, Nat.le_of_ble_eq_true rfl⟩ d_ga_takenBy_79 rfl (vp_nar_int _) h_6
  · have h_3 := hh.2 c_1
    refine ev_iload_n (x := x1) (pc := 19) d_ga_takenBy_19 rfl ?_
    refine ev_iload (x := x6) (pc := 20) d_ga_takenBy_20 rfl ?_
    refine ev_callS (z := m_ga_hasBit) (as := [.int x1, .int x6]) (rest := []) (pc := 22) d_ga_takenBy_22 l_ga_351 i_ga_hasBit o_ga_hasBit rfl rfl (Nat.le_of_ble_eq_true rfl) rfl (Nat.le_of_ble_eq_true rfl) ⟨Nat.le_of_ble_eq_true rfl, Nat.le_of_ble_eq_true rfl⟩ (s_ga_hasBit hX x1 x6) (fun r X1 hq => ?_)
    obtain ⟨rfl, rfl⟩ := hq
    show Ev E m_ga_takenBy 25 [(0, .ref 0), (1, .int x1), (2, .int x2), (3, .int x3), (4, .int x4), (5, .int x5), (6, .int x6)] [.int (bz (gb x1 x6))] X (0, 0) Q
    refine ev_ifz_ne (pc := 25) (tgt := 31) d_ga_takenBy_25 (by decide) (fun c_7 => ?_) (fun c_7 => ?_)
    · have h_8 := h_3.1 c_7
      refine ev_aload_n (x := 0) (pc := 31) d_ga_takenBy_31 rfl ?_
      refine ev_getR (pc := 32) d_ga_takenBy_32 f_ga_29 (ly_at hX 0 rfl) gg_11 rfl (ly_rf hX 0 3 rfl) ?_
      refine ev_iload (x := x6) (pc := 35) d_ga_takenBy_35 rfl ?_
      obtain ⟨hv_13, r_10, k_15, hq_12, hb_11, hg_16, h_14⟩ := h_8
      refine ev_ald3 (pc := 37) d_ga_takenBy_37 (ly_at hX 15 rfl) hv_13 hq_12 ?_
      refine ev_iload_n (x := x2) (pc := 38) d_ga_takenBy_38 rfl ?_
      obtain ⟨Qz_17, hc_18, hk_19⟩ := h_14
      have kk_27 : ∀ r X_20, Qz_17 r X_20 → Ev E m_ga_takenBy 42 [(0, .ref 0), (1, .int x1), (2, .int x2), (3, .int x3), (4, .int x4), (5, .int x5), (6, .int x6)] (r.toList ++ []) X_20 (0, 0) Q := by
        intro r_21 X_20 hq_22
        obtain ⟨v_25, rfl, hX_24, hm_26, h_23⟩ := hk_19 _ _ hq_22
        show Ev E m_ga_takenBy 42 [(0, .ref 0), (1, .int x1), (2, .int x2), (3, .int x3), (4, .int x4), (5, .int x5), (6, .int x6)] [.int v_25] X_20 (0, 0) Q
        refine ev_istore (L2 := [(0, .ref 0), (1, .int x1), (2, .int x2), (3, .int x3), (4, .int x4), (5, .int x5), (6, .int x6), (7, .int v_25)]) (pc := 42) d_ga_takenBy_42 rfl (Nat.le_of_ble_eq_true rfl) rfl ?_
        refine ev_iload (x := x4) (pc := 44) d_ga_takenBy_44 rfl ?_
        refine ev_iload (x := v_25) (pc := 46) d_ga_takenBy_46 rfl ?_
        refine ev_mmin (pc := 48) d_ga_takenBy_48 l_ga_440 ⟨Nat.le_of_ble_eq_true rfl, Nat.le_of_ble_eq_true rfl⟩ ⟨Nat.le_of_ble_eq_true rfl, Nat.le_of_ble_eq_true rfl⟩ ?_
        refine ev_istore (L2 := [(0, .ref 0), (1, .int x1), (2, .int x2), (3, .int x3), (4, .int (if v_25 < x4 then v_25 else x4)), (5, .int x5), (6, .int x6), (7, .int v_25)]) (pc := 51) d_ga_takenBy_51 rfl (Nat.le_of_ble_eq_true rfl) rfl ?_
        refine ev_iload (x := x5) (pc := 53) d_ga_takenBy_53 rfl ?_
        refine ev_iload (x := v_25) (pc := 55) d_ga_takenBy_55 rfl ?_
        refine ev_mmax (pc := 57) d_ga_takenBy_57 l_ga_511 ⟨Nat.le_of_ble_eq_true rfl, Nat.le_of_ble_eq_true rfl⟩ ⟨Nat.le_of_ble_eq_true rfl, Nat.le_of_ble_eq_true rfl⟩ ?_
        refine ev_istore (L2 := [(0, .ref 0), (1, .int x1), (2, .int x2), (3, .int x3), (4, .int (if v_25 < x4 then v_25 else x4)), (5, .int (if x5 < v_25 then v_25 else x5)), (6, .int x6), (7, .int v_25)]) (pc := 60) d_ga_takenBy_60 rfl (Nat.le_of_ble_eq_true rfl) rfl ?_
        refine ev_iinc (v := (x6 + 1)) (L2 := [(0, .ref 0), (1, .int x1), (2, .int x2), (3, .int x3), (4, .int (if v_25 < x4 then v_25 else x4)), (5, .int (if x5 < v_25 then v_25 else x5)), (6, .int (x6 + 1)), (7, .int v_25)]) (pc := 62) d_ga_takenBy_62 rfl (by rw [kc_i_1]) rfl (Nat.le_of_ble_eq_true rfl) rfl ?_
        refine ev_goto (pc := 65) (tgt := 10) d_ga_takenBy_65 (by decide) ?_
        exact ev_sub [(0, .ref 0), (1, .int x1), (2, .int x2), (3, .int x3), (4, .int (if v_25 < x4 then v_25 else x4)), (5, .int (if x5 < v_25 then v_25 else x5)), (6, .int (x6 + 1))] (List.forall_mem_cons.mpr ⟨rfl, (List.forall_mem_cons.mpr ⟨rfl, (List.forall_mem_cons.mpr ⟨rfl, (List.forall_mem_cons.mpr ⟨rfl, (List.forall_mem_cons.mpr ⟨rfl, (List.forall_mem_cons.mpr ⟨rfl, (List.forall_mem_cons.mpr ⟨rfl, (fun _ h => nomatch h)⟩)⟩)⟩)⟩)⟩)⟩)⟩) h_23
      have hat := hb_11
      rcases gp_ring hg_16 with e | e | e | e
      · have hz := hc_18.1 e
        rw [e] at hat
        exact ev_callU (z := m_ri_takes) (as := [.int x2]) (rest := []) (owner := "GasTurn$Ring") (pc := 39) d_ga_takenBy_39 hat lt13_1 l_ga_508 e_ri_ri_takes i_ri_takes o_ri_takes.2.2.2.1 i_ri_takes w_fi_ri_takes_ri_takes ⟨by decide, by decide, o_ri_takes.1⟩ o_ri_takes rfl rfl (Nat.le_of_ble_eq_true rfl) rfl (Nat.le_of_ble_eq_true rfl) ⟨Nat.le_of_ble_eq_true rfl, Nat.le_of_ble_eq_true rfl⟩ hz kk_27
      · have hz := hc_18.2.1 e
        rw [e] at hat
        exact ev_callU (z := m_ri_takes) (as := [.int x2]) (rest := []) (owner := "GasTurn$Ring") (pc := 39) d_ga_takenBy_39 hat lt13_2 l_ga_508 e_ri_ri_takes i_ri_takes o_ri_takes.2.2.2.1 i_ri_takes w_gr_ri_takes_ri_takes ⟨by decide, by decide, o_ri_takes.1⟩ o_ri_takes rfl rfl (Nat.le_of_ble_eq_true rfl) rfl (Nat.le_of_ble_eq_true rfl) ⟨Nat.le_of_ble_eq_true rfl, Nat.le_of_ble_eq_true rfl⟩ hz kk_27
      · have hz := hc_18.2.2.1 e
        rw [e] at hat
        exact ev_callU (z := m_ri_takes) (as := [.int x2]) (rest := []) (owner := "GasTurn$Ring") (pc := 39) d_ga_takenBy_39 hat lt13_6 l_ga_508 e_ri_ri_takes i_ri_takes o_ri_takes.2.2.2.1 i_ri_takes w_ov_ri_takes_ri_takes ⟨by decide, by decide, o_ri_takes.1⟩ o_ri_takes rfl rfl (Nat.le_of_ble_eq_true rfl) rfl (Nat.le_of_ble_eq_true rfl) ⟨Nat.le_of_ble_eq_true rfl, Nat.le_of_ble_eq_true rfl⟩ hz kk_27
      · have hz := hc_18.2.2.2 e
        rw [e] at hat
        exact ev_callU (z := m_ri_takes) (as := [.int x2]) (rest := []) (owner := "GasTurn$Ring") (pc := 39) d_ga_takenBy_39 hat lt13_7 l_ga_508 e_ri_ri_takes i_ri_takes o_ri_takes.2.2.2.1 i_ri_takes w_ri_ri_takes_ri_takes ⟨by decide, by decide, o_ri_takes.1⟩ o_ri_takes rfl rfl (Nat.le_of_ble_eq_true rfl) rfl (Nat.le_of_ble_eq_true rfl) ⟨Nat.le_of_ble_eq_true rfl, Nat.le_of_ble_eq_true rfl⟩ hz kk_27
    · have h_9 := h_3.2 c_7
      refine ev_goto (pc := 28) (tgt := 62) d_ga_takenBy_28 (by decide) ?_
      refine ev_iinc (v := (x6 + 1)) (L2 := [(0, .ref 0), (1, .int x1), (2, .int x2), (3, .int x3), (4, .int x4), (5, .int x5), (6, .int (x6 + 1))]) (pc := 62) d_ga_takenBy_62 rfl (by rw [kc_i_1]) rfl (Nat.le_of_ble_eq_true rfl) rfl ?_
      refine ev_goto (pc := 65) (tgt := 10) d_ga_takenBy_65 (by decide) ?_
      exact h_9
theorem b_ga_homeOf_0 {E : gp_E} {S : gp_S} {X : gp_H} {Q : Option Value → gp_H → Prop} {x1 : Int32} {x2 : Int32} (hX : Lay S X)  (hh : (∃ Qz_1, Ev E m_ga_homeAt 0 [(0, .ref 0), (1, .int x1)] [] X (0, 0) Qz_1 ∧ ∀ r X_4, Qz_1 r X_4 → ((∃ a_10 : Nat, r = some (.ref a_10) ∧ gp_at X_4 a_10 (3, 0) ∧ Lay S X_4 ∧ (((x2.toInt < 0 ∨ 7 < x2.toInt) → Q (some (.int (-5))) X_4) ∧ (x2 = 0 → Q (some (.int (gI X_4 a_10 0))) X_4) ∧ (x2 = 1 → Q (some (.int (gI X_4 a_10 1))) X_4) ∧ (x2 = 2 → Q (some (.int (gI X_4 a_10 2))) X_4) ∧ (x2 = 3 → Q (some (.int (gI X_4 a_10 4))) X_4) ∧ (x2 = 4 → Q (some (.int (gI X_4 a_10 5))) X_4) ∧ (x2 = 5 → Q (some (.int (gI X_4 a_10 6))) X_4) ∧ (x2 = 6 → Q (some (.int (gI X_4 a_10 7))) X_4) ∧ (x2 = 7 → Q (some (.int (bz (!decide ((gI X_4 a_10 8) = 0))))) X_4))) ∨ (r = some .null ∧ Lay S X_4 ∧ Q (some (.int (-5))) X_4)))) : Ev E m_ga_homeOf 0 [(0, .ref 0), (1, .int x1), (2, .int x2)] [] X (0, 0) Q := by
  refine ev_aload_n (x := 0) (pc := 0) d_ga_homeOf_0 rfl ?_
  refine ev_iload_n (x := x1) (pc := 1) d_ga_homeOf_1 rfl ?_
  obtain ⟨Qz_1, hc_2, hk_3⟩ := hh
  refine ev_callV (z := m_ga_homeAt) (as := [.int x1]) (rest := []) (pc := 2) d_ga_homeOf_2 (ly_at hX 0 rfl) lt13_11 rfl l_ga_204 i_ga_homeAt v_ga_homeAt o_ga_homeAt rfl rfl (Nat.le_of_ble_eq_true rfl) rfl (Nat.le_of_ble_eq_true rfl) ⟨Nat.le_of_ble_eq_true rfl, Nat.le_of_ble_eq_true rfl⟩ hc_2 (fun r_5 X_4 hq_6 => ?_)
  rcases hk_3 _ _ hq_6 with ⟨a_10, rfl, hb_11, hX_8, h_7⟩ | ⟨rfl, hX_8, h_12⟩
  · show Ev E m_ga_homeOf 5 [(0, .ref 0), (1, .int x1), (2, .int x2)] [.ref a_10] X_4 (0, 0) Q
    refine ev_astore_n (L2 := [(0, .ref 0), (1, .int x1), (2, .int x2), (3, .ref a_10)]) (pc := 5) d_ga_homeOf_5 rfl (Nat.le_of_ble_eq_true rfl) rfl ?_
    refine ev_aload_n (x := a_10) (pc := 6) d_ga_homeOf_6 rfl ?_
    refine ev_ifnonnull (pc := 7) (tgt := 13) d_ga_homeOf_7 (by decide) ?_
    refine ev_iload_n (x := x2) (pc := 13) d_ga_homeOf_13 rfl ?_
    rcases gp_tab (lo := 0) (n := 8) x2 with c_22 | ⟨k, hk, c_22⟩
    · have h_13 := h_7.1 (by omega)
      refine ev_tableOut (pc := 14) (tgt := 103) d_ga_homeOf_14 (by omega) (by decide) ?_
      refine ev_bipush (v := (-5)) (pc := 103) d_ga_homeOf_103 kc_b_m5 ?_
      exact ev_iret (pc := 105) ⟨Nat.le_of_ble_eq_true rfl, Nat.le_of_ble_eq_true rfl⟩ d_ga_homeOf_105 rfl (vp_nar_int _) h_13
    · match k, hk, c_22 with
      | 0, _, c_22 =>
        have c_22e : x2 = 0 := gp_eqi (c_22.trans (by decide : (0 : Int) + ((0 : Nat) : Int) = 0)) (by decide)
        have h_14 := h_7.2.1 c_22e
        refine ev_tableIn (pc := 14) (off := 46) (tgt := 60) d_ga_homeOf_14 (by rw [c_22e]; decide) (by rw [c_22e]; decide) (by rw [c_22e]; decide) (by decide) ?_
        refine ev_aload_n (x := a_10) (pc := 60) d_ga_homeOf_60 rfl ?_
        refine ev_getJ (v := (gI X_4 a_10 0)) (pc := 61) d_ga_homeOf_61 f_ga_240 hb_11 gg_3 rfl rfl ?_
        exact ev_iret (pc := 64) ⟨Nat.le_of_ble_eq_true rfl, Nat.le_of_ble_eq_true rfl⟩ d_ga_homeOf_64 rfl (vp_nar_int _) h_14
      | 1, _, c_22 =>
        have c_22e : x2 = 1 := gp_eqi (c_22.trans (by decide : (0 : Int) + ((1 : Nat) : Int) = 1)) (by decide)
        have h_15 := h_7.2.2.1 c_22e
        refine ev_tableIn (pc := 14) (off := 51) (tgt := 65) d_ga_homeOf_14 (by rw [c_22e]; decide) (by rw [c_22e]; decide) (by rw [c_22e]; decide) (by decide) ?_
        refine ev_aload_n (x := a_10) (pc := 65) d_ga_homeOf_65 rfl ?_
        refine ev_getJ (v := (gI X_4 a_10 1)) (pc := 66) d_ga_homeOf_66 f_ga_243 hb_11 gg_3 rfl rfl ?_
        exact ev_iret (pc := 69) ⟨Nat.le_of_ble_eq_true rfl, Nat.le_of_ble_eq_true rfl⟩ d_ga_homeOf_69 rfl (vp_nar_int _) h_15
      | 2, _, c_22 =>
        have c_22e : x2 = 2 := gp_eqi (c_22.trans (by decide : (0 : Int) + ((2 : Nat) : Int) = 2)) (by decide)
        have h_16 := h_7.2.2.2.1 c_22e
        refine ev_tableIn (pc := 14) (off := 56) (tgt := 70) d_ga_homeOf_14 (by rw [c_22e]; decide) (by rw [c_22e]; decide) (by rw [c_22e]; decide) (by decide) ?_
        refine ev_aload_n (x := a_10) (pc := 70) d_ga_homeOf_70 rfl ?_
        refine ev_getJ (v := (gI X_4 a_10 2)) (pc := 71) d_ga_homeOf_71 f_ga_246 hb_11 gg_3 rfl rfl ?_
        exact ev_iret (pc := 74) ⟨Nat.le_of_ble_eq_true rfl, Nat.le_of_ble_eq_true rfl⟩ d_ga_homeOf_74 rfl (vp_nar_int _) h_16
      | 3, _, c_22 =>
        have c_22e : x2 = 3 := gp_eqi (c_22.trans (by decide : (0 : Int) + ((3 : Nat) : Int) = 3)) (by decide)
        have h_17 := h_7.2.2.2.2.1 c_22e
        refine ev_tableIn (pc := 14) (off := 61) (tgt := 75) d_ga_homeOf_14 (by rw [c_22e]; decide) (by rw [c_22e]; decide) (by rw [c_22e]; decide) (by decide) ?_
        refine ev_aload_n (x := a_10) (pc := 75) d_ga_homeOf_75 rfl ?_
        refine ev_getJ (v := (gI X_4 a_10 4)) (pc := 76) d_ga_homeOf_76 f_ga_249 hb_11 gg_3 rfl rfl ?_
        exact ev_iret (pc := 79) ⟨Nat.le_of_ble_eq_true rfl, Nat.le_of_ble_eq_true rfl⟩ d_ga_homeOf_79 rfl (vp_nar_int _) h_17
      | 4, _, c_22 =>
        have c_22e : x2 = 4 := gp_eqi (c_22.trans (by decide : (0 : Int) + ((4 : Nat) : Int) = 4)) (by decide)
        have h_18 := h_7.2.2.2.2.2.1 c_22e
        refine ev_tableIn (pc := 14) (off := 66) (tgt := 80) d_ga_homeOf_14 (by rw [c_22e]; decide) (by rw [c_22e]; decide) (by rw [c_22e]; decide) (by decide) ?_
        refine ev_aload_n (x := a_10) (pc := 80) d_ga_homeOf_80 rfl ?_
        refine ev_getJ (v := (gI X_4 a_10 5)) (pc := 81) d_ga_homeOf_81 f_ga_252 hb_11 gg_3 rfl rfl ?_
        exact ev_iret (pc := 84) ⟨Nat.le_of_ble_eq_true rfl, Nat.le_of_ble_eq_true rfl⟩ d_ga_homeOf_84 rfl (vp_nar_int _) h_18
      | 5, _, c_22 =>
        have c_22e : x2 = 5 := gp_eqi (c_22.trans (by decide : (0 : Int) + ((5 : Nat) : Int) = 5)) (by decide)
        have h_19 := h_7.2.2.2.2.2.2.1 c_22e
        refine ev_tableIn (pc := 14) (off := 71) (tgt := 85) d_ga_homeOf_14 (by rw [c_22e]; decide) (by rw [c_22e]; decide) (by rw [c_22e]; decide) (by decide) ?_
        refine ev_aload_n (x := a_10) (pc := 85) d_ga_homeOf_85 rfl ?_
        refine ev_getJ (v := (gI X_4 a_10 6)) (pc := 86) d_ga_homeOf_86 f_ga_255 hb_11 gg_3 rfl rfl ?_
        exact ev_iret (pc := 89) ⟨Nat.le_of_ble_eq_true rfl, Nat.le_of_ble_eq_true rfl⟩ d_ga_homeOf_89 rfl (vp_nar_int _) h_19
      | 6, _, c_22 =>
        have c_22e : x2 = 6 := gp_eqi (c_22.trans (by decide : (0 : Int) + ((6 : Nat) : Int) = 6)) (by decide)
        have h_20 := h_7.2.2.2.2.2.2.2.1 c_22e
        refine ev_tableIn (pc := 14) (off := 76) (tgt := 90) d_ga_homeOf_14 (by rw [c_22e]; decide) (by rw [c_22e]; decide) (by rw [c_22e]; decide) (by decide) ?_
        refine ev_aload_n (x := a_10) (pc := 90) d_ga_homeOf_90 rfl ?_
        refine ev_getJ (v := (gI X_4 a_10 7)) (pc := 91) d_ga_homeOf_91 f_ga_258 hb_11 gg_3 rfl rfl ?_
        exact ev_iret (pc := 94) ⟨Nat.le_of_ble_eq_true rfl, Nat.le_of_ble_eq_true rfl⟩ d_ga_homeOf_94 rfl (vp_nar_int _) h_20
      | 7, _, c_22 =>
        have c_22e : x2 = 7 := gp_eqi (c_22.trans (by decide : (0 : Int) + ((7 : Nat) : Int) = 7)) (by decide)
        have h_21 := h_7.2.2.2.2.2.2.2.2 c_22e
        refine ev_tableIn (pc := 14) (off := 81) (tgt := 95) d_ga_homeOf_14 (by rw [c_22e]; decide) (by rw [c_22e]; decide) (by rw [c_22e]; decide) (by decide) ?_
        refine ev_aload_n (x := a_10) (pc := 95) d_ga_homeOf_95 rfl ?_
        refine ev_getJ (v := (gI X_4 a_10 8)) (pc := 96) d_ga_homeOf_96 f_ga_261 hb_11 gg_3 rfl rfl ?_
        refine ev_callS (z := m_ga_flag) (as := [.int (gI X_4 a_10 8)]) (rest := []) (pc := 99) d_ga_homeOf_99 l_ga_115 i_ga_flag o_ga_flag rfl rfl (Nat.le_of_ble_eq_true rfl) rfl (Nat.le_of_ble_eq_true rfl) ⟨Nat.le_of_ble_eq_true rfl, Nat.le_of_ble_eq_true rfl⟩ (s_ga_flag hX_8 (gI X_4 a_10 8)) (fun r X1 hq => ?_)
        obtain ⟨rfl, rfl⟩ := hq
        show Ev E m_ga_homeOf 102 [(0, .ref 0), (1, .int x1), (2, .int x2), (3, .ref a_10)] [.int (bz (!decide ((gI X_4 a_10 8) = 0)))] X_4 (0, 0) Q
        exact ev_iret (pc := 102) ⟨Nat.le_of_ble_eq_true rfl, Nat.le_of_ble_eq_true rfl⟩ d_ga_homeOf_102 rfl (vp_nar_int _) h_21
      | k + 8, hk, _ => exact absurd hk (by omega)
  · show Ev E m_ga_homeOf 5 [(0, .ref 0), (1, .int x1), (2, .int x2)] [.null] X_4 (0, 0) Q
    refine ev_astore_nN (L2 := [(0, .ref 0), (1, .int x1), (2, .int x2), (3, .null)]) (pc := 5) d_ga_homeOf_5 rfl (Nat.le_of_ble_eq_true rfl) rfl ?_
    refine ev_aload_nN  (pc := 6) d_ga_homeOf_6 rfl ?_
    refine ev_ifnonnullN (pc := 7) d_ga_homeOf_7 ?_
    refine ev_bipush (v := (-5)) (pc := 10) d_ga_homeOf_10 kc_b_m5 ?_
    exact ev_iret (pc := 12) ⟨Nat.le_of_ble_eq_true rfl, Nat.le_of_ble_eq_true rfl⟩ d_ga_homeOf_12 rfl (vp_nar_int _) h_12
theorem b_ga_stock_0 {E : gp_E} {S : gp_S} {X : gp_H} {Q : Option Value → gp_H → Prop} {x1 : Int32} {x2 : Int32} (hX : Lay S X)  (hh : (((iw x1 0 4) = true → (((iw x2 (-9999) 9999) = true → (vp_in x1 5 ∧ (((iw ((gI X 19 (Int32.toNatClampNeg x1)) + x2) 0 9999) = true → Q (some (.int (gI (gp_sI X 19 (Int32.toNatClampNeg x1) ((gI X 19 (Int32.toNatClampNeg x1)) + x2)) 19 (Int32.toNatClampNeg x1)))) (gp_sI X 19 (Int32.toNatClampNeg x1) ((gI X 19 (Int32.toNatClampNeg x1)) + x2))) ∧ ((iw ((gI X 19 (Int32.toNatClampNeg x1)) + x2) 0 9999) = false → Q (some (.int (-2))) X)))) ∧ ((iw x2 (-9999) 9999) = false → Q (some (.int (-2))) X))) ∧ ((iw x1 0 4) = false → Q (some (.int (-1))) X))) : Ev E m_ga_stock 0 [(0, .ref 0), (1, .int x1), (2, .int x2)] [] X (0, 0) Q := by
  refine ev_iload_n (x := x1) (pc := 0) d_ga_stock_0 rfl ?_
  refine ev_callS (z := m_ga_isJet) (as := [.int x1]) (rest := []) (pc := 1) d_ga_stock_1 l_ga_184 i_ga_isJet o_ga_isJet rfl rfl (Nat.le_of_ble_eq_true rfl) rfl (Nat.le_of_ble_eq_true rfl) ⟨Nat.le_of_ble_eq_true rfl, Nat.le_of_ble_eq_true rfl⟩ (s_ga_isJet hX x1) (fun r X1 hq => ?_)
  obtain ⟨rfl, rfl⟩ := hq
  show Ev E m_ga_stock 4 [(0, .ref 0), (1, .int x1), (2, .int x2)] [.int (bz (iw x1 0 4))] X (0, 0) Q
  refine ev_ifz_ne (pc := 4) (tgt := 9) d_ga_stock_4 (by decide) (fun c_1 => ?_) (fun c_1 => ?_)
  · have h_2 := hh.1 c_1
    refine ev_iload_n (x := x2) (pc := 9) d_ga_stock_9 rfl ?_
    refine ev_sipush (v := (-9999)) (pc := 10) d_ga_stock_10 kc_s_m9999 ?_
    refine ev_sipush (v := 9999) (pc := 13) d_ga_stock_13 kc_s_9999 ?_
    refine ev_callS (z := m_ga_isWithin) (as := [.int x2, .int (-9999), .int 9999]) (rest := []) (pc := 16) d_ga_stock_16 l_ga_128 i_ga_isWithin o_ga_isWithin rfl rfl (Nat.le_of_ble_eq_true rfl) rfl (Nat.le_of_ble_eq_true rfl) ⟨Nat.le_of_ble_eq_true rfl, Nat.le_of_ble_eq_true rfl⟩ (s_ga_isWithin hX x2 (-9999) 9999) (fun r X1 hq => ?_)
    obtain ⟨rfl, rfl⟩ := hq
    show Ev E m_ga_stock 19 [(0, .ref 0), (1, .int x1), (2, .int x2)] [.int (bz (iw x2 (-9999) 9999))] X (0, 0) Q
    refine ev_ifz_ne (pc := 19) (tgt := 25) d_ga_stock_19 (by decide) (fun c_4 => ?_) (fun c_4 => ?_)
    · have h_5 := h_2.1 c_4
      refine ev_aload_n (x := 0) (pc := 25) d_ga_stock_25 rfl ?_
      refine ev_getR (pc := 26) d_ga_stock_26 f_ga_45 (ly_at hX 0 rfl) gg_11 rfl (ly_rf hX 0 10 rfl) ?_
      refine ev_iload_n (x := x1) (pc := 29) d_ga_stock_29 rfl ?_
      refine ev_ialdJ (v := (gI X 19 (Int32.toNatClampNeg x1))) (pc := 30) d_ga_stock_30 (ly_at hX 19 rfl) h_5.1 rfl ?_
      refine ev_iload_n (x := x2) (pc := 31) d_ga_stock_31 rfl ?_
      refine ev_iadd (pc := 32) d_ga_stock_32 ?_
      refine ev_iconst (v := 0) (pc := 33) d_ga_stock_33 kc_i_0 ?_
      refine ev_sipush (v := 9999) (pc := 34) d_ga_stock_34 kc_s_9999 ?_
      refine ev_callS (z := m_ga_isWithin) (as := [.int ((gI X 19 (Int32.toNatClampNeg x1)) + x2), .int 0, .int 9999]) (rest := []) (pc := 37) d_ga_stock_37 l_ga_128 i_ga_isWithin o_ga_isWithin rfl rfl (Nat.le_of_ble_eq_true rfl) rfl (Nat.le_of_ble_eq_true rfl) ⟨Nat.le_of_ble_eq_true rfl, Nat.le_of_ble_eq_true rfl⟩ (s_ga_isWithin hX ((gI X 19 (Int32.toNatClampNeg x1)) + x2) 0 9999) (fun r X1 hq => ?_)
      obtain ⟨rfl, rfl⟩ := hq
      show Ev E m_ga_stock 40 [(0, .ref 0), (1, .int x1), (2, .int x2)] [.int (bz (iw ((gI X 19 (Int32.toNatClampNeg x1)) + x2) 0 9999))] X (0, 0) Q
      refine ev_ifz_ne (pc := 40) (tgt := 46) d_ga_stock_40 (by decide) (fun c_7 => ?_) (fun c_7 => ?_)
      · have h_8 := h_5.2.1 c_7
        refine ev_aload_n (x := 0) (pc := 46) d_ga_stock_46 rfl ?_
        refine ev_getR (pc := 47) d_ga_stock_47 f_ga_45 (ly_at hX 0 rfl) gg_11 rfl (ly_rf hX 0 10 rfl) ?_
        refine ev_iload_n (x := x1) (pc := 50) d_ga_stock_50 rfl ?_
        refine ev_dup2 (pc := 51) d_ga_stock_51 rfl rfl ?_
        refine ev_ialdJ (v := (gI X 19 (Int32.toNatClampNeg x1))) (pc := 52) d_ga_stock_52 (ly_at hX 19 rfl) h_5.1 rfl ?_
        refine ev_iload_n (x := x2) (pc := 53) d_ga_stock_53 rfl ?_
        refine ev_iadd (pc := 54) d_ga_stock_54 ?_
        refine ev_iast (pc := 55) d_ga_stock_55 (ly_at hX 19 rfl) h_5.1 ?_
        refine ev_aload_n (x := 0) (pc := 56) d_ga_stock_56 rfl ?_
        refine ev_getR (pc := 57) d_ga_stock_57 f_ga_45 (ly_at (ly_sI hX) 0 rfl) gg_11 rfl (ly_rf (ly_sI hX) 0 10 rfl) ?_
        refine ev_iload_n (x := x1) (pc := 60) d_ga_stock_60 rfl ?_
        refine ev_ialdJ (v := (gI (gp_sI X 19 (Int32.toNatClampNeg x1) ((gI X 19 (Int32.toNatClampNeg x1)) + x2)) 19 (Int32.toNatClampNeg x1))) (pc := 61) d_ga_stock_61 (ly_at (ly_sI hX) 19 rfl) h_5.1 rfl ?_
        exact ev_iret (pc := 62) ⟨Nat.le_of_ble_eq_true rfl, Nat.le_of_ble_eq_true rfl⟩ d_ga_stock_62 rfl (vp_nar_int _) h_8
      · have h_9 := h_5.2.2 c_7
        refine ev_bipush (v := (-2)) (pc := 43) d_ga_stock_43 kc_b_m2 ?_
        exact ev_iret (pc := 45) ⟨Nat.le_of_ble_eq_true rfl, Nat.le_of_ble_eq_true rfl⟩ d_ga_stock_45 rfl (vp_nar_int _) h_9
    · have h_6 := h_2.2 c_4
      refine ev_bipush (v := (-2)) (pc := 22) d_ga_stock_22 kc_b_m2 ?_
      exact ev_iret (pc := 24) ⟨Nat.le_of_ble_eq_true rfl, Nat.le_of_ble_eq_true rfl⟩ d_ga_stock_24 rfl (vp_nar_int _) h_6
  · have h_3 := hh.2 c_1
    refine ev_iconst (v := (-1)) (pc := 7) d_ga_stock_7 kc_i_m1 ?_
    exact ev_iret (pc := 8) ⟨Nat.le_of_ble_eq_true rfl, Nat.le_of_ble_eq_true rfl⟩ d_ga_stock_8 rfl (vp_nar_int _) h_3
theorem b_ga_order_0 {E : gp_E} {S : gp_S} {X : gp_H} {Q : Option Value → gp_H → Prop} {x1 : Int32} {x2 : Int32} {x3 : Int32} (hX : Lay S X)  (hh : (((iw x1 0 4) = true → (((iw x2 1 999) = false → Q (some (.int (-2))) X) ∧ ((iw x2 1 999) = true → (((iw x3 ((gI X 0 16) + 1) 200) = true → (((gI X 0 14) < 30 → (vp_in (gI X 0 14) 30 ∧ Q (some (.int (gI X 0 14))) (gp_sI (gp_sI (gp_sI (gp_sI X 20 (Int32.toNatClampNeg (gI X 0 14)) x1) 21 (Int32.toNatClampNeg (gI X 0 14)) x2) 22 (Int32.toNatClampNeg (gI X 0 14)) x3) 0 14 ((gI X 0 14) + 1)))) ∧ (¬ (gI X 0 14) < 30 → Q (some (.int (-4))) X))) ∧ ((iw x3 ((gI X 0 16) + 1) 200) = false → Q (some (.int (-2))) X))))) ∧ ((iw x1 0 4) = false → Q (some (.int (-1))) X))) : Ev E m_ga_order 0 [(0, .ref 0), (1, .int x1), (2, .int x2), (3, .int x3)] [] X (0, 0) Q := by
  refine ev_iload_n (x := x1) (pc := 0) d_ga_order_0 rfl ?_
  refine ev_callS (z := m_ga_isJet) (as := [.int x1]) (rest := []) (pc := 1) d_ga_order_1 l_ga_184 i_ga_isJet o_ga_isJet rfl rfl (Nat.le_of_ble_eq_true rfl) rfl (Nat.le_of_ble_eq_true rfl) ⟨Nat.le_of_ble_eq_true rfl, Nat.le_of_ble_eq_true rfl⟩ (s_ga_isJet hX x1) (fun r X1 hq => ?_)
  obtain ⟨rfl, rfl⟩ := hq
  show Ev E m_ga_order 4 [(0, .ref 0), (1, .int x1), (2, .int x2), (3, .int x3)] [.int (bz (iw x1 0 4))] X (0, 0) Q
  refine ev_ifz_ne (pc := 4) (tgt := 9) d_ga_order_4 (by decide) (fun c_1 => ?_) (fun c_1 => ?_)
  · have h_2 := hh.1 c_1
    refine ev_iload_n (x := x2) (pc := 9) d_ga_order_9 rfl ?_
    refine ev_iconst (v := 1) (pc := 10) d_ga_order_10 kc_i_1 ?_
    refine ev_sipush (v := 999) (pc := 11) d_ga_order_11 kc_s_999 ?_
    refine ev_callS (z := m_ga_isWithin) (as := [.int x2, .int 1, .int 999]) (rest := []) (pc := 14) d_ga_order_14 l_ga_128 i_ga_isWithin o_ga_isWithin rfl rfl (Nat.le_of_ble_eq_true rfl) rfl (Nat.le_of_ble_eq_true rfl) ⟨Nat.le_of_ble_eq_true rfl, Nat.le_of_ble_eq_true rfl⟩ (s_ga_isWithin hX x2 1 999) (fun r X1 hq => ?_)
    obtain ⟨rfl, rfl⟩ := hq
    show Ev E m_ga_order 17 [(0, .ref 0), (1, .int x1), (2, .int x2), (3, .int x3)] [.int (bz (iw x2 1 999))] X (0, 0) Q
    refine ev_ifz_eq (pc := 17) (tgt := 36) d_ga_order_17 (by decide) (fun c_4 => ?_) (fun c_4 => ?_)
    · have h_5 := h_2.1 c_4
      refine ev_bipush (v := (-2)) (pc := 36) d_ga_order_36 kc_b_m2 ?_
      exact ev_iret (pc := 38) ⟨Nat.le_of_ble_eq_true rfl, Nat.le_of_ble_eq_true rfl⟩ d_ga_order_38 rfl (vp_nar_int _) h_5
    · have h_6 := h_2.2 c_4
      refine ev_iload_n (x := x3) (pc := 20) d_ga_order_20 rfl ?_
      refine ev_aload_n (x := 0) (pc := 21) d_ga_order_21 rfl ?_
      refine ev_getJ (v := (gI X 0 16)) (pc := 22) d_ga_order_22 f_ga_265 (ly_at hX 0 rfl) gg_11 rfl rfl ?_
      refine ev_iconst (v := 1) (pc := 25) d_ga_order_25 kc_i_1 ?_
      refine ev_iadd (pc := 26) d_ga_order_26 ?_
      refine ev_sipush (v := 200) (pc := 27) d_ga_order_27 kc_s_200 ?_
      refine ev_callS (z := m_ga_isWithin) (as := [.int x3, .int ((gI X 0 16) + 1), .int 200]) (rest := []) (pc := 30) d_ga_order_30 l_ga_128 i_ga_isWithin o_ga_isWithin rfl rfl (Nat.le_of_ble_eq_true rfl) rfl (Nat.le_of_ble_eq_true rfl) ⟨Nat.le_of_ble_eq_true rfl, Nat.le_of_ble_eq_true rfl⟩ (s_ga_isWithin hX x3 ((gI X 0 16) + 1) 200) (fun r X1 hq => ?_)
      obtain ⟨rfl, rfl⟩ := hq
      show Ev E m_ga_order 33 [(0, .ref 0), (1, .int x1), (2, .int x2), (3, .int x3)] [.int (bz (iw x3 ((gI X 0 16) + 1) 200))] X (0, 0) Q
      refine ev_ifz_ne (pc := 33) (tgt := 39) d_ga_order_33 (by decide) (fun c_7 => ?_) (fun c_7 => ?_)
      · have h_8 := h_6.1 c_7
        refine ev_aload_n (x := 0) (pc := 39) d_ga_order_39 rfl ?_
        refine ev_getJ (v := (gI X 0 14)) (pc := 40) d_ga_order_40 f_ga_268 (ly_at hX 0 rfl) gg_11 rfl rfl ?_
        refine ev_bipush (v := 30) (pc := 43) d_ga_order_43 kc_b_30 ?_
        refine ev_icmp_lt (pc := 45) (tgt := 51) d_ga_order_45 (by decide) (fun c_10 => ?_) (fun c_10 => ?_)
        · have h_11 := h_8.1 c_10
          refine ev_aload_n (x := 0) (pc := 51) d_ga_order_51 rfl ?_
          refine ev_getR (pc := 52) d_ga_order_52 f_ga_48 (ly_at hX 0 rfl) gg_11 rfl (ly_rf hX 0 11 rfl) ?_
          refine ev_aload_n (x := 0) (pc := 55) d_ga_order_55 rfl ?_
          refine ev_getJ (v := (gI X 0 14)) (pc := 56) d_ga_order_56 f_ga_268 (ly_at hX 0 rfl) gg_11 rfl rfl ?_
          refine ev_iload_n (x := x1) (pc := 59) d_ga_order_59 rfl ?_
          refine ev_iast (pc := 60) d_ga_order_60 (ly_at hX 20 rfl) h_11.1 ?_
          refine ev_aload_n (x := 0) (pc := 61) d_ga_order_61 rfl ?_
          refine ev_getR (pc := 62) d_ga_order_62 f_ga_51 (ly_at (ly_sI hX) 0 rfl) gg_11 rfl (ly_rf (ly_sI hX) 0 12 rfl) ?_
          refine ev_aload_n (x := 0) (pc := 65) d_ga_order_65 rfl ?_
          refine ev_getJ (v := (gI X 0 14)) (pc := 66) d_ga_order_66 f_ga_268 (ly_at (ly_sI hX) 0 rfl) gg_11 rfl rfl ?_
          refine ev_iload_n (x := x2) (pc := 69) d_ga_order_69 rfl ?_
          refine ev_iast (pc := 70) d_ga_order_70 (ly_at (ly_sI hX) 21 rfl) h_11.1 ?_
          refine ev_aload_n (x := 0) (pc := 71) d_ga_order_71 rfl ?_
          refine ev_getR (pc := 72) d_ga_order_72 f_ga_54 (ly_at (ly_sI (ly_sI hX)) 0 rfl) gg_11 rfl (ly_rf (ly_sI (ly_sI hX)) 0 13 rfl) ?_
          refine ev_aload_n (x := 0) (pc := 75) d_ga_order_75 rfl ?_
          refine ev_getJ (v := (gI X 0 14)) (pc := 76) d_ga_order_76 f_ga_268 (ly_at (ly_sI (ly_sI hX)) 0 rfl) gg_11 rfl rfl ?_
          refine ev_iload_n (x := x3) (pc := 79) d_ga_order_79 rfl ?_
          refine ev_iast (pc := 80) d_ga_order_80 (ly_at (ly_sI (ly_sI hX)) 22 rfl) h_11.1 ?_
          refine ev_aload_n (x := 0) (pc := 81) d_ga_order_81 rfl ?_
          refine ev_dup (pc := 82) d_ga_order_82 rfl ?_
          refine ev_getJ (v := (gI X 0 14)) (pc := 83) d_ga_order_83 f_ga_268 (ly_at (ly_sI (ly_sI (ly_sI hX))) 0 rfl) gg_11 rfl rfl ?_
          refine ev_dup_x1 (pc := 86) d_ga_order_86 rfl rfl ?_
          refine ev_iconst (v := 1) (pc := 87) d_ga_order_87 kc_i_1 ?_
          refine ev_iadd (pc := 88) d_ga_order_88 ?_
          refine ev_putI (pc := 89) d_ga_order_89 f_ga_268 (ly_at (ly_sI (ly_sI (ly_sI hX))) 0 rfl) gg_11 rfl (Or.inl rfl) (vp_nar_int _) rfl ?_
          exact ev_iret (pc := 92) ⟨Nat.le_of_ble_eq_true rfl, Nat.le_of_ble_eq_true rfl⟩ d_ga_order_92 rfl (vp_nar_int _) h_11.2
        · have h_12 := h_8.2 c_10
          refine ev_bipush (v := (-4)) (pc := 48) d_ga_order_48 kc_b_m4 ?_
          exact ev_iret (pc := 50) ⟨Nat.le_of_ble_eq_true rfl, Nat.le_of_ble_eq_true rfl⟩ d_ga_order_50 rfl (vp_nar_int _) h_12
      · have h_9 := h_6.2 c_7
        refine ev_bipush (v := (-2)) (pc := 36) d_ga_order_36 kc_b_m2 ?_
        exact ev_iret (pc := 38) ⟨Nat.le_of_ble_eq_true rfl, Nat.le_of_ble_eq_true rfl⟩ d_ga_order_38 rfl (vp_nar_int _) h_9
  · have h_3 := hh.2 c_1
    refine ev_iconst (v := (-1)) (pc := 7) d_ga_order_7 kc_i_m1 ?_
    exact ev_iret (pc := 8) ⟨Nat.le_of_ble_eq_true rfl, Nat.le_of_ble_eq_true rfl⟩ d_ga_order_8 rfl (vp_nar_int _) h_3
theorem b_ga_sector_0 {E : gp_E} {S : gp_S} {X : gp_H} {Q : Option Value → gp_H → Prop} {x1 : Int32} (hX : Lay S X)  (hh : ((x1 = 0 → Q (some (.int (-2))) X) ∧ (¬ x1 = 0 → (((x1 &&& ((((1 : Int32) <<< ((gI X 1 0) &&& 31)) - 1) ^^^ (-1))) = 0 → (∃ Qz_7, Ev E m_se_knotsOf 0 [(0, .ref 23), (1, .int (((1 : Int32) <<< ((gI X 23 1) &&& 31)) - 1))] [] X (0, 0) Qz_7 ∧ ∀ r X_10, Qz_7 r X_10 → ∃ v_15 : Int32, r = some (.int v_15) ∧ Lay S X_10 ∧ (((x1 &&& v_15) = 0 → (((gI X_10 23 1) < 7 → (vp_in (gI X_10 23 1) 7 ∧ Q (some (.int (gI X_10 23 1))) (gp_sI (gp_sI X_10 24 (Int32.toNatClampNeg (gI X_10 23 1)) x1) 23 1 ((gI X_10 23 1) + 1)))) ∧ (¬ (gI X_10 23 1) < 7 → Q (some (.int (-4))) X_10))) ∧ (¬ (x1 &&& v_15) = 0 → Q (some (.int (-3))) X_10)))) ∧ (¬ (x1 &&& ((((1 : Int32) <<< ((gI X 1 0) &&& 31)) - 1) ^^^ (-1))) = 0 → Q (some (.int (-2))) X))))) : Ev E m_ga_sector 0 [(0, .ref 0), (1, .int x1)] [] X (0, 0) Q := by
  refine ev_iload_n (x := x1) (pc := 0) d_ga_sector_0 rfl ?_
  refine ev_if_eq (pc := 1) (tgt := 18) d_ga_sector_1 (by decide) (fun c_1 => ?_) (fun c_1 => ?_)
  · have h_2 := hh.1 c_1
    refine ev_bipush (v := (-2)) (pc := 18) d_ga_sector_18 kc_b_m2 ?_
    exact ev_iret (pc := 20) ⟨Nat.le_of_ble_eq_true rfl, Nat.le_of_ble_eq_true rfl⟩ d_ga_sector_20 rfl (vp_nar_int _) h_2
  · have h_3 := hh.2 c_1
    refine ev_iload_n (x := x1) (pc := 4) d_ga_sector_4 rfl ?_
    refine ev_aload_n (x := 0) (pc := 5) d_ga_sector_5 rfl ?_
    refine ev_getR (pc := 6) d_ga_sector_6 f_ga_10 (ly_at hX 0 rfl) gg_11 rfl (ly_rf hX 0 0 rfl) ?_
    refine ev_callV (z := m_ne_allKnots) (as := []) (rest := [.int x1]) (pc := 9) d_ga_sector_9 (ly_at hX 1 rfl) lt13_5 rfl l_ga_271 i_ne_allKnots v_ne_allKnots o_ne_allKnots rfl rfl (Nat.le_of_ble_eq_true rfl) rfl (Nat.le_of_ble_eq_true rfl) ⟨Nat.le_of_ble_eq_true rfl, Nat.le_of_ble_eq_true rfl⟩ (s_ne_allKnots hX  ) (fun r X1 hq => ?_)
    obtain ⟨rfl, rfl⟩ := hq
    show Ev E m_ga_sector 12 [(0, .ref 0), (1, .int x1)] [.int (((1 : Int32) <<< ((gI X 1 0) &&& 31)) - 1), .int x1] X (0, 0) Q
    refine ev_iconst (v := (-1)) (pc := 12) d_ga_sector_12 kc_i_m1 ?_
    refine ev_ixor (pc := 13) d_ga_sector_13 ?_
    refine ev_iand (pc := 14) d_ga_sector_14 ?_
    refine ev_if_eq (pc := 15) (tgt := 21) d_ga_sector_15 (by decide) (fun c_4 => ?_) (fun c_4 => ?_)
    · have h_5 := h_3.1 c_4
      refine ev_iload_n (x := x1) (pc := 21) d_ga_sector_21 rfl ?_
      refine ev_aload_n (x := 0) (pc := 22) d_ga_sector_22 rfl ?_
      refine ev_getR (pc := 23) d_ga_sector_23 f_ga_62 (ly_at hX 0 rfl) gg_11 rfl (ly_rf hX 0 15 rfl) ?_
      refine ev_aload_n (x := 0) (pc := 26) d_ga_sector_26 rfl ?_
      refine ev_getR (pc := 27) d_ga_sector_27 f_ga_62 (ly_at hX 0 rfl) gg_11 rfl (ly_rf hX 0 15 rfl) ?_
      refine ev_callV (z := m_se_all) (as := []) (rest := [.ref 23, .int x1]) (pc := 30) d_ga_sector_30 (ly_at hX 23 rfl) lt13_8 rfl l_ga_274 i_se_all v_se_all o_se_all rfl rfl (Nat.le_of_ble_eq_true rfl) rfl (Nat.le_of_ble_eq_true rfl) ⟨Nat.le_of_ble_eq_true rfl, Nat.le_of_ble_eq_true rfl⟩ (s_se_all hX  ) (fun r X1 hq => ?_)
      obtain ⟨rfl, rfl⟩ := hq
      show Ev E m_ga_sector 33 [(0, .ref 0), (1, .int x1)] [.int (((1 : Int32) <<< ((gI X 23 1) &&& 31)) - 1), .ref 23, .int x1] X (0, 0) Q
      obtain ⟨Qz_7, hc_8, hk_9⟩ := h_5
      refine ev_callV (z := m_se_knotsOf) (as := [.int (((1 : Int32) <<< ((gI X 23 1) &&& 31)) - 1)]) (rest := [.int x1]) (pc := 33) d_ga_sector_33 (ly_at hX 23 rfl) lt13_8 rfl l_ga_277 i_se_knotsOf v_se_knotsOf o_se_knotsOf rfl rfl (Nat.le_of_ble_eq_true rfl) rfl (Nat.le_of_ble_eq_true rfl) ⟨Nat.le_of_ble_eq_true rfl, Nat.le_of_ble_eq_true rfl⟩ hc_8 (fun r_11 X_10 hq_12 => ?_)
      obtain ⟨v_15, rfl, hX_14, h_13⟩ := hk_9 _ _ hq_12
      show Ev E m_ga_sector 36 [(0, .ref 0), (1, .int x1)] [.int v_15, .int x1] X_10 (0, 0) Q
      refine ev_iand (pc := 36) d_ga_sector_36 ?_
      refine ev_if_eq (pc := 37) (tgt := 43) d_ga_sector_37 (by decide) (fun c_16 => ?_) (fun c_16 => ?_)
      · have h_17 := h_13.1 c_16
        refine ev_aload_n (x := 0) (pc := 43) d_ga_sector_43 rfl ?_
        refine ev_getR (pc := 44) d_ga_sector_44 f_ga_62 (ly_at hX_14 0 rfl) gg_11 rfl (ly_rf hX_14 0 15 rfl) ?_
        refine ev_getJ (v := (gI X_10 23 1)) (pc := 47) d_ga_sector_47 f_ga_280 (ly_at hX_14 23 rfl) gg_8 rfl rfl ?_
        refine ev_bipush (v := 7) (pc := 50) d_ga_sector_50 kc_b_7 ?_
        refine ev_icmp_lt (pc := 52) (tgt := 58) d_ga_sector_52 (by decide) (fun c_19 => ?_) (fun c_19 => ?_)
        · have h_20 := h_17.1 c_19
          refine ev_aload_n (x := 0) (pc := 58) d_ga_sector_58 rfl ?_
          refine ev_getR (pc := 59) d_ga_sector_59 f_ga_62 (ly_at hX_14 0 rfl) gg_11 rfl (ly_rf hX_14 0 15 rfl) ?_
          refine ev_getR (pc := 62) d_ga_sector_62 f_ga_233 (ly_at hX_14 23 rfl) gg_8 rfl (ly_rf hX_14 23 2 rfl) ?_
          refine ev_aload_n (x := 0) (pc := 65) d_ga_sector_65 rfl ?_
          refine ev_getR (pc := 66) d_ga_sector_66 f_ga_62 (ly_at hX_14 0 rfl) gg_11 rfl (ly_rf hX_14 0 15 rfl) ?_
          refine ev_getJ (v := (gI X_10 23 1)) (pc := 69) d_ga_sector_69 f_ga_280 (ly_at hX_14 23 rfl) gg_8 rfl rfl ?_
          refine ev_iload_n (x := x1) (pc := 72) d_ga_sector_72 rfl ?_
          refine ev_iast (pc := 73) d_ga_sector_73 (ly_at hX_14 24 rfl) h_20.1 ?_
          refine ev_aload_n (x := 0) (pc := 74) d_ga_sector_74 rfl ?_
          refine ev_getR (pc := 75) d_ga_sector_75 f_ga_62 (ly_at (ly_sI hX_14) 0 rfl) gg_11 rfl (ly_rf (ly_sI hX_14) 0 15 rfl) ?_
          refine ev_dup (pc := 78) d_ga_sector_78 rfl ?_
          refine ev_getJ (v := (gI X_10 23 1)) (pc := 79) d_ga_sector_79 f_ga_280 (ly_at (ly_sI hX_14) 23 rfl) gg_8 rfl rfl ?_
          refine ev_dup_x1 (pc := 82) d_ga_sector_82 rfl rfl ?_
          refine ev_iconst (v := 1) (pc := 83) d_ga_sector_83 kc_i_1 ?_
          refine ev_iadd (pc := 84) d_ga_sector_84 ?_
          refine ev_putI (pc := 85) d_ga_sector_85 f_ga_280 (ly_at (ly_sI hX_14) 23 rfl) gg_8 rfl (Or.inl rfl) (vp_nar_int _) rfl ?_
          exact ev_iret (pc := 88) ⟨Nat.le_of_ble_eq_true rfl, Nat.le_of_ble_eq_true rfl⟩ d_ga_sector_88 rfl (vp_nar_int _) h_20.2
        · have h_21 := h_17.2 c_19
          refine ev_bipush (v := (-4)) (pc := 55) d_ga_sector_55 kc_b_m4 ?_
          exact ev_iret (pc := 57) ⟨Nat.le_of_ble_eq_true rfl, Nat.le_of_ble_eq_true rfl⟩ d_ga_sector_57 rfl (vp_nar_int _) h_21
      · have h_18 := h_13.2 c_16
        refine ev_bipush (v := (-3)) (pc := 40) d_ga_sector_40 kc_b_m3 ?_
        exact ev_iret (pc := 42) ⟨Nat.le_of_ble_eq_true rfl, Nat.le_of_ble_eq_true rfl⟩ d_ga_sector_42 rfl (vp_nar_int _) h_18
    · have h_6 := h_3.2 c_4
      refine ev_bipush (v := (-2)) (pc := 18) d_ga_sector_18 kc_b_m2 ?_
      exact ev_iret (pc := 20) ⟨Nat.le_of_ble_eq_true rfl, Nat.le_of_ble_eq_true rfl⟩ d_ga_sector_20 rfl (vp_nar_int _) h_6
theorem b_ga_why_0 {E : gp_E} {S : gp_S} {X : gp_H} {Q : Option Value → gp_H → Prop} {x1 : Int32} (hX : Lay S X)  (hh : (((iw x1 0 ((gI X 23 1) - 1)) = true → (∃ Qz_4, Ev E m_ga_whatHinders 0 [(0, .ref 0), (1, .int x1)] [] X (0, 0) Qz_4 ∧ ∀ r X_7, Qz_4 r X_7 → ∃ v_12 : Int32, r = some (.int v_12) ∧ Lay S X_7 ∧ Q (some (.int v_12)) X_7)) ∧ ((iw x1 0 ((gI X 23 1) - 1)) = false → Q (some (.int (-1))) X))) : Ev E m_ga_why 0 [(0, .ref 0), (1, .int x1)] [] X (0, 0) Q := by
  refine ev_aload_n (x := 0) (pc := 0) d_ga_why_0 rfl ?_
  refine ev_getR (pc := 1) d_ga_why_1 f_ga_62 (ly_at hX 0 rfl) gg_11 rfl (ly_rf hX 0 15 rfl) ?_
  refine ev_iload_n (x := x1) (pc := 4) d_ga_why_4 rfl ?_
  refine ev_callV (z := m_se_has) (as := [.int x1]) (rest := []) (pc := 5) d_ga_why_5 (ly_at hX 23 rfl) lt13_8 rfl l_ga_232 i_se_has v_se_has o_se_has rfl rfl (Nat.le_of_ble_eq_true rfl) rfl (Nat.le_of_ble_eq_true rfl) ⟨Nat.le_of_ble_eq_true rfl, Nat.le_of_ble_eq_true rfl⟩ (s_se_has hX x1 ) (fun r X1 hq => ?_)
  obtain ⟨rfl, rfl⟩ := hq
  show Ev E m_ga_why 8 [(0, .ref 0), (1, .int x1)] [.int (bz (iw x1 0 ((gI X 23 1) - 1)))] X (0, 0) Q
  refine ev_ifz_ne (pc := 8) (tgt := 13) d_ga_why_8 (by decide) (fun c_1 => ?_) (fun c_1 => ?_)
  · have h_2 := hh.1 c_1
    refine ev_aload_n (x := 0) (pc := 13) d_ga_why_13 rfl ?_
    refine ev_iload_n (x := x1) (pc := 14) d_ga_why_14 rfl ?_
    obtain ⟨Qz_4, hc_5, hk_6⟩ := h_2
    refine ev_callV (z := m_ga_whatHinders) (as := [.int x1]) (rest := []) (pc := 15) d_ga_why_15 (ly_at hX 0 rfl) lt13_11 rfl l_ga_283 i_ga_whatHinders v_ga_whatHinders o_ga_whatHinders rfl rfl (Nat.le_of_ble_eq_true rfl) rfl (Nat.le_of_ble_eq_true rfl) ⟨Nat.le_of_ble_eq_true rfl, Nat.le_of_ble_eq_true rfl⟩ hc_5 (fun r_8 X_7 hq_9 => ?_)
    obtain ⟨v_12, rfl, hX_11, h_10⟩ := hk_6 _ _ hq_9
    show Ev E m_ga_why 18 [(0, .ref 0), (1, .int x1)] [.int v_12] X_7 (0, 0) Q
    exact ev_iret (pc := 18) ⟨Nat.le_of_ble_eq_true rfl, Nat.le_of_ble_eq_true rfl⟩ d_ga_why_18 rfl (vp_nar_int _) h_10
  · have h_3 := hh.2 c_1
    refine ev_iconst (v := (-1)) (pc := 11) d_ga_why_11 kc_i_m1 ?_
    exact ev_iret (pc := 12) ⟨Nat.le_of_ble_eq_true rfl, Nat.le_of_ble_eq_true rfl⟩ d_ga_why_12 rfl (vp_nar_int _) h_3
theorem b_ga_whatHinders_0 {E : gp_E} {S : gp_S} {X : gp_H} {Q : Option Value → gp_H → Prop} {x1 : Int32} (hX : Lay S X)  (hh : (∃ Qz_1, Ev E m_ga_countLack 0 [(0, .ref 0)] [] X (0, 0) Qz_1 ∧ ∀ r X_4, Qz_1 r X_4 → (r = none ∧ Lay S X_4 ∧ (∃ Qz_9, Ev E m_se_hindrance 0 [(0, .ref 23), (1, .int x1)] [] X_4 (0, 0) Qz_9 ∧ ∀ r X_12, Qz_9 r X_12 → ∃ v_17 : Int32, r = some (.int v_17) ∧ Lay S X_12 ∧ ((v_17 = 0 → (∃ Qz_21, Ev E m_la_bars 0 [(0, .ref 40), (1, .int x1), (2, .int (gI X_12 0 16))] [] X_12 (0, 0) Qz_21 ∧ ∀ r X_24, Qz_21 r X_24 → ∃ v_29 : Int32, r = some (.int v_29) ∧ Lay S X_24 ∧ ((v_29 = 0 → Q (some (.int 0)) X_24) ∧ (¬ v_29 = 0 → Q (some (.int 5)) X_24)))) ∧ (¬ v_17 = 0 → Q (some (.int v_17)) X_12)))))) : Ev E m_ga_whatHinders 0 [(0, .ref 0), (1, .int x1)] [] X (0, 0) Q := by
  refine ev_aload_n (x := 0) (pc := 0) d_ga_whatHinders_0 rfl ?_
  obtain ⟨Qz_1, hc_2, hk_3⟩ := hh
  refine ev_callV (z := m_ga_countLack) (as := []) (rest := []) (pc := 1) d_ga_whatHinders_1 (ly_at hX 0 rfl) lt13_11 rfl l_ga_286 i_ga_countLack v_ga_countLack o_ga_countLack rfl rfl (Nat.le_of_ble_eq_true rfl) rfl (Nat.le_of_ble_eq_true rfl) ⟨Nat.le_of_ble_eq_true rfl, Nat.le_of_ble_eq_true rfl⟩ hc_2 (fun r_5 X_4 hq_6 => ?_)
  obtain ⟨rfl, hX_8, h_7⟩ := hk_3 _ _ hq_6
  show Ev E m_ga_whatHinders 4 [(0, .ref 0), (1, .int x1)] [] X_4 (0, 0) Q
  refine ev_aload_n (x := 0) (pc := 4) d_ga_whatHinders_4 rfl ?_
  refine ev_getR (pc := 5) d_ga_whatHinders_5 f_ga_62 (ly_at hX_8 0 rfl) gg_11 rfl (ly_rf hX_8 0 15 rfl) ?_
  refine ev_iload_n (x := x1) (pc := 8) d_ga_whatHinders_8 rfl ?_
  obtain ⟨Qz_9, hc_10, hk_11⟩ := h_7
  refine ev_callV (z := m_se_hindrance) (as := [.int x1]) (rest := []) (pc := 9) d_ga_whatHinders_9 (ly_at hX_8 23 rfl) lt13_8 rfl l_ga_517 i_se_hindrance v_se_hindrance o_se_hindrance rfl rfl (Nat.le_of_ble_eq_true rfl) rfl (Nat.le_of_ble_eq_true rfl) ⟨Nat.le_of_ble_eq_true rfl, Nat.le_of_ble_eq_true rfl⟩ hc_10 (fun r_13 X_12 hq_14 => ?_)
  obtain ⟨v_17, rfl, hX_16, h_15⟩ := hk_11 _ _ hq_14
  show Ev E m_ga_whatHinders 12 [(0, .ref 0), (1, .int x1)] [.int v_17] X_12 (0, 0) Q
  refine ev_istore_n (L2 := [(0, .ref 0), (1, .int x1), (2, .int v_17)]) (pc := 12) d_ga_whatHinders_12 rfl (Nat.le_of_ble_eq_true rfl) rfl ?_
  refine ev_iload_n (x := v_17) (pc := 13) d_ga_whatHinders_13 rfl ?_
  refine ev_if_eq (pc := 14) (tgt := 19) d_ga_whatHinders_14 (by decide) (fun c_18 => ?_) (fun c_18 => ?_)
  · have h_19 := h_15.1 c_18
    refine ev_aload_n (x := 0) (pc := 19) d_ga_whatHinders_19 rfl ?_
    refine ev_getR (pc := 20) d_ga_whatHinders_20 f_ga_76 (ly_at hX_16 0 rfl) gg_11 rfl (ly_rf hX_16 0 18 rfl) ?_
    refine ev_iload_n (x := x1) (pc := 23) d_ga_whatHinders_23 rfl ?_
    refine ev_aload_n (x := 0) (pc := 24) d_ga_whatHinders_24 rfl ?_
    refine ev_getJ (v := (gI X_12 0 16)) (pc := 25) d_ga_whatHinders_25 f_ga_265 (ly_at hX_16 0 rfl) gg_11 rfl rfl ?_
    obtain ⟨Qz_21, hc_22, hk_23⟩ := h_19
    refine ev_callV (z := m_la_bars) (as := [.int x1, .int (gI X_12 0 16)]) (rest := []) (pc := 28) d_ga_whatHinders_28 (ly_at hX_16 40 rfl) lt13_4 rfl l_ga_520 i_la_bars v_la_bars o_la_bars rfl rfl (Nat.le_of_ble_eq_true rfl) rfl (Nat.le_of_ble_eq_true rfl) ⟨Nat.le_of_ble_eq_true rfl, Nat.le_of_ble_eq_true rfl⟩ hc_22 (fun r_25 X_24 hq_26 => ?_)
    obtain ⟨v_29, rfl, hX_28, h_27⟩ := hk_23 _ _ hq_26
    show Ev E m_ga_whatHinders 31 [(0, .ref 0), (1, .int x1), (2, .int v_17)] [.int v_29] X_24 (0, 0) Q
    refine ev_if_eq (pc := 31) (tgt := 38) d_ga_whatHinders_31 (by decide) (fun c_30 => ?_) (fun c_30 => ?_)
    · have h_31 := h_27.1 c_30
      refine ev_iconst (v := 0) (pc := 38) d_ga_whatHinders_38 kc_i_0 ?_
      exact ev_iret (pc := 39) ⟨Nat.le_of_ble_eq_true rfl, Nat.le_of_ble_eq_true rfl⟩ d_ga_whatHinders_39 rfl (vp_nar_int _) h_31
    · have h_32 := h_27.2 c_30
      refine ev_iconst (v := 5) (pc := 34) d_ga_whatHinders_34 kc_i_5 ?_
      refine ev_goto (pc := 35) (tgt := 39) d_ga_whatHinders_35 (by decide) ?_
      exact ev_iret (pc := 39) ⟨Nat.le_of_ble_eq_true rfl, Nat.le_of_ble_eq_true rfl⟩ d_ga_whatHinders_39 rfl (vp_nar_int _) h_32
  · have h_20 := h_15.2 c_18
    refine ev_iload_n (x := v_17) (pc := 17) d_ga_whatHinders_17 rfl ?_
    exact ev_iret (pc := 18) ⟨Nat.le_of_ble_eq_true rfl, Nat.le_of_ble_eq_true rfl⟩ d_ga_whatHinders_18 rfl (vp_nar_int _) h_20
