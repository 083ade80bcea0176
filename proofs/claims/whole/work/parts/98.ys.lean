theorem b_ga_model_0 {E : gp_E} {S : gp_S} {X : gp_H} {Q : Option Value → gp_H → Prop} {x1 : Int32} {x2 : Int32} {x3 : Int32} {x4 : Int32} {x5 : Int32} (hX : Lay S X)  (hh : (((iw x1 0 3) = false → Q (some (.int (-2))) X) ∧ ((iw x1 0 3) = true → (((iw x2 0 4) = false → Q (some (.int (-2))) X) ∧ ((iw x2 0 4) = true → (((iw x3 1 9) = true → (((iw x4 1 8) = false → Q (some (.int (-2))) X) ∧ ((iw x4 1 8) = true → (((iw x5 0 3) = true → (((gI X 0 4) < 12 → Ev E m_ga_model 65 [(0, .ref 0), (1, .int x1), (2, .int x2), (3, .int x3), (4, .int x4), (5, .int x5)] [] X (0, 0) Q) ∧ (¬ (gI X 0 4) < 12 → Q (some (.int (-4))) X))) ∧ ((iw x5 0 3) = false → Q (some (.int (-2))) X))))) ∧ ((iw x3 1 9) = false → Q (some (.int (-2))) X))))))) : Ev E m_ga_model 0 [(0, .ref 0), (1, .int x1), (2, .int x2), (3, .int x3), (4, .int x4), (5, .int x5)] [] X (0, 0) Q := by
  refine ev_iload_n (x := x1) (pc := 0) d_ga_model_0 rfl ?_
  refine ev_iconst (v := 0) (pc := 1) d_ga_model_1 kc_i_0 ?_
  refine ev_iconst (v := 3) (pc := 2) d_ga_model_2 kc_i_3 ?_
  refine ev_callS (z := m_ga_isWithin) (as := [.int x1, .int 0, .int 3]) (rest := []) (pc := 3) d_ga_model_3 l_ga_128 i_ga_isWithin o_ga_isWithin rfl rfl (Nat.le_of_ble_eq_true rfl) rfl (Nat.le_of_ble_eq_true rfl) ⟨Nat.le_of_ble_eq_true rfl, Nat.le_of_ble_eq_true rfl⟩ (s_ga_isWithin hX x1 0 3) (fun r X1 hq => ?_)
  obtain ⟨rfl, rfl⟩ := hq
  show Ev E m_ga_model 6 [(0, .ref 0), (1, .int x1), (2, .int x2), (3, .int x3), (4, .int x4), (5, .int x5)] [.int (bz (iw x1 0 3))] X (0, 0) Q
  refine ev_ifz_eq (pc := 6) (tgt := 26) d_ga_model_6 (by decide) (fun c_1 => ?_) (fun c_1 => ?_)
  · have h_2 := hh.1 c_1
    refine ev_bipush (v := (-2)) (pc := 26) d_ga_model_26 kc_b_m2 ?_
    exact ev_iret (pc := 28) ⟨Nat.le_of_ble_eq_true rfl, Nat.le_of_ble_eq_true rfl⟩ d_ga_model_28 rfl (vp_nar_int _) h_2
  · have h_3 := hh.2 c_1
    refine ev_iload_n (x := x2) (pc := 9) d_ga_model_9 rfl ?_
    refine ev_callS (z := m_ga_isJet) (as := [.int x2]) (rest := []) (pc := 10) d_ga_model_10 l_ga_184 i_ga_isJet o_ga_isJet rfl rfl (Nat.le_of_ble_eq_true rfl) rfl (Nat.le_of_ble_eq_true rfl) ⟨Nat.le_of_ble_eq_true rfl, Nat.le_of_ble_eq_true rfl⟩ (s_ga_isJet hX x2) (fun r X1 hq => ?_)
    obtain ⟨rfl, rfl⟩ := hq
    show Ev E m_ga_model 13 [(0, .ref 0), (1, .int x1), (2, .int x2), (3, .int x3), (4, .int x4), (5, .int x5)] [.int (bz (iw x2 0 4))] X (0, 0) Q
    refine ev_ifz_eq (pc := 13) (tgt := 26) d_ga_model_13 (by decide) (fun c_4 => ?_) (fun c_4 => ?_)
    · have h_5 := h_3.1 c_4
      refine ev_bipush (v := (-2)) (pc := 26) d_ga_model_26 kc_b_m2 ?_
      exact ev_iret (pc := 28) ⟨Nat.le_of_ble_eq_true rfl, Nat.le_of_ble_eq_true rfl⟩ d_ga_model_28 rfl (vp_nar_int _) h_5
    · have h_6 := h_3.2 c_4
      refine ev_iload_n (x := x3) (pc := 16) d_ga_model_16 rfl ?_
      refine ev_iconst (v := 1) (pc := 17) d_ga_model_17 kc_i_1 ?_
      refine ev_bipush (v := 9) (pc := 18) d_ga_model_18 kc_b_9 ?_
      refine ev_callS (z := m_ga_isWithin) (as := [.int x3, .int 1, .int 9]) (rest := []) (pc := 20) d_ga_model_20 l_ga_128 i_ga_isWithin o_ga_isWithin rfl rfl (Nat.le_of_ble_eq_true rfl) rfl (Nat.le_of_ble_eq_true rfl) ⟨Nat.le_of_ble_eq_true rfl, Nat.le_of_ble_eq_true rfl⟩ (s_ga_isWithin hX x3 1 9) (fun r X1 hq => ?_)
      obtain ⟨rfl, rfl⟩ := hq
      show Ev E m_ga_model 23 [(0, .ref 0), (1, .int x1), (2, .int x2), (3, .int x3), (4, .int x4), (5, .int x5)] [.int (bz (iw x3 1 9))] X (0, 0) Q
      refine ev_ifz_ne (pc := 23) (tgt := 29) d_ga_model_23 (by decide) (fun c_7 => ?_) (fun c_7 => ?_)
      · have h_8 := h_6.1 c_7
        refine ev_iload (x := x4) (pc := 29) d_ga_model_29 rfl ?_
        refine ev_iconst (v := 1) (pc := 31) d_ga_model_31 kc_i_1 ?_
        refine ev_bipush (v := 8) (pc := 32) d_ga_model_32 kc_b_8 ?_
        refine ev_callS (z := m_ga_isWithin) (as := [.int x4, .int 1, .int 8]) (rest := []) (pc := 34) d_ga_model_34 l_ga_128 i_ga_isWithin o_ga_isWithin rfl rfl (Nat.le_of_ble_eq_true rfl) rfl (Nat.le_of_ble_eq_true rfl) ⟨Nat.le_of_ble_eq_true rfl, Nat.le_of_ble_eq_true rfl⟩ (s_ga_isWithin hX x4 1 8) (fun r X1 hq => ?_)
        obtain ⟨rfl, rfl⟩ := hq
        show Ev E m_ga_model 37 [(0, .ref 0), (1, .int x1), (2, .int x2), (3, .int x3), (4, .int x4), (5, .int x5)] [.int (bz (iw x4 1 8))] X (0, 0) Q
        refine ev_ifz_eq (pc := 37) (tgt := 50) d_ga_model_37 (by decide) (fun c_10 => ?_) (fun c_10 => ?_)
        · have h_11 := h_8.1 c_10
          refine ev_bipush (v := (-2)) (pc := 50) d_ga_model_50 kc_b_m2 ?_
          exact ev_iret (pc := 52) ⟨Nat.le_of_ble_eq_true rfl, Nat.le_of_ble_eq_true rfl⟩ d_ga_model_52 rfl (vp_nar_int _) h_11
        · have h_12 := h_8.2 c_10
          refine ev_iload (x := x5) (pc := 40) d_ga_model_40 rfl ?_
          refine ev_iconst (v := 0) (pc := 42) d_ga_model_42 kc_i_0 ?_
          refine ev_iconst (v := 3) (pc := 43) d_ga_model_43 kc_i_3 ?_
          refine ev_callS (z := m_ga_isWithin) (as := [.int x5, .int 0, .int 3]) (rest := []) (pc := 44) d_ga_model_44 l_ga_128 i_ga_isWithin o_ga_isWithin rfl rfl (Nat.le_of_ble_eq_true rfl) rfl (Nat.le_of_ble_eq_true rfl) ⟨Nat.le_of_ble_eq_true rfl, Nat.le_of_ble_eq_true rfl⟩ (s_ga_isWithin hX x5 0 3) (fun r X1 hq => ?_)
          obtain ⟨rfl, rfl⟩ := hq
          show Ev E m_ga_model 47 [(0, .ref 0), (1, .int x1), (2, .int x2), (3, .int x3), (4, .int x4), (5, .int x5)] [.int (bz (iw x5 0 3))] X (0, 0) Q
          refine ev_ifz_ne (pc := 47) (tgt := 53) d_ga_model_47 (by decide) (fun c_13 => ?_) (fun c_13 => ?_)
          · have h_14 := h_12.1 c_13
            refine ev_aload_n (x := 0) (pc := 53) d_ga_model_53 rfl ?_
            refine ev_getJ (v := (gI X 0 4)) (pc := 54) d_ga_model_54 f_ga_187 (ly_at hX 0 rfl) gg_11 rfl rfl ?_
            refine ev_bipush (v := 12) (pc := 57) d_ga_model_57 kc_b_12 ?_
            refine ev_icmp_lt (pc := 59) (tgt := 65) d_ga_model_59 (by decide) (fun c_16 => ?_) (fun c_16 => ?_)
            · have h_17 := h_14.1 c_16
              exact h_17
            · have h_18 := h_14.2 c_16
              refine ev_bipush (v := (-4)) (pc := 62) d_ga_model_62 kc_b_m4 ?_
              exact ev_iret (pc := 64) ⟨Nat.le_of_ble_eq_true rfl, Nat.le_of_ble_eq_true rfl⟩ d_ga_model_64 rfl (vp_nar_int _) h_18
          · have h_15 := h_12.2 c_13
            refine ev_bipush (v := (-2)) (pc := 50) d_ga_model_50 kc_b_m2 ?_
            exact ev_iret (pc := 52) ⟨Nat.le_of_ble_eq_true rfl, Nat.le_of_ble_eq_true rfl⟩ d_ga_model_52 rfl (vp_nar_int _) h_15
      · have h_9 := h_6.2 c_7
        refine ev_bipush (v := (-2)) (pc := 26) d_ga_model_26 kc_b_m2 ?_
        exact ev_iret (pc := 28) ⟨Nat.le_of_ble_eq_true rfl, Nat.le_of_ble_eq_true rfl⟩ d_ga_model_28 rfl (vp_nar_int _) h_9
theorem b_ga_home_0 {E : gp_E} {S : gp_S} {X : gp_H} {Q : Option Value → gp_H → Prop} {x1 : Int32} {x2 : Int32} {x3 : Int32} {x4 : Int32} (hX : Lay S X)  (hh : (∃ Qz_1, Ev E m_ga_modelAt 0 [(0, .ref 0), (1, .int x4)] [] X (0, 0) Qz_1 ∧ ∀ r X_4, Qz_1 r X_4 → ((∃ a_10 k_12 : Nat, r = some (.ref a_10) ∧ gp_at X_4 a_10 (k_12, 0) ∧ (k_12 < 13 ∧ gp_gid k_12 = 7) ∧ Lay S X_4 ∧ (((iw x1 0 ((gI X_4 1 0) - 1)) = false → Q (some (.int (-1))) X_4) ∧ ((iw x1 0 ((gI X_4 1 0) - 1)) = true → (((iw x2 1 20) = false → Q (some (.int (-2))) X_4) ∧ ((iw x2 1 20) = true → (((iw x3 0 31) = true → (((gI X_4 0 6) < 40 → Ev E m_ga_home 61 [(0, .ref 0), (1, .int x1), (2, .int x2), (3, .int x3), (4, .int x4), (5, .ref a_10)] [] X_4 (0, 0) Q) ∧ (¬ (gI X_4 0 6) < 40 → Q (some (.int (-4))) X_4))) ∧ ((iw x3 0 31) = false → Q (some (.int (-2))) X_4))))))) ∨ (r = some .null ∧ Lay S X_4 ∧ (((iw x1 0 ((gI X_4 1 0) - 1)) = false → Q (some (.int (-1))) X_4) ∧ ((iw x1 0 ((gI X_4 1 0) - 1)) = true → Q (some (.int (-1))) X_4)))))) : Ev E m_ga_home 0 [(0, .ref 0), (1, .int x1), (2, .int x2), (3, .int x3), (4, .int x4)] [] X (0, 0) Q := by
  refine ev_aload_n (x := 0) (pc := 0) d_ga_home_0 rfl ?_
  refine ev_iload (x := x4) (pc := 1) d_ga_home_1 rfl ?_
  obtain ⟨Qz_1, hc_2, hk_3⟩ := hh
  refine ev_callV (z := m_ga_modelAt) (as := [.int x4]) (rest := []) (pc := 3) d_ga_home_3 (ly_at hX 0 rfl) lt13_11 rfl l_ga_194 i_ga_modelAt v_ga_modelAt o_ga_modelAt rfl rfl (Nat.le_of_ble_eq_true rfl) rfl (Nat.le_of_ble_eq_true rfl) ⟨Nat.le_of_ble_eq_true rfl, Nat.le_of_ble_eq_true rfl⟩ hc_2 (fun r_5 X_4 hq_6 => ?_)
  rcases hk_3 _ _ hq_6 with ⟨a_10, k_12, rfl, hb_11, hg_13, hX_8, h_7⟩ | ⟨rfl, hX_8, h_14⟩
  · show Ev E m_ga_home 6 [(0, .ref 0), (1, .int x1), (2, .int x2), (3, .int x3), (4, .int x4)] [.ref a_10] X_4 (0, 0) Q
    refine ev_astore (L2 := [(0, .ref 0), (1, .int x1), (2, .int x2), (3, .int x3), (4, .int x4), (5, .ref a_10)]) (pc := 6) d_ga_home_6 rfl (Nat.le_of_ble_eq_true rfl) rfl ?_
    refine ev_aload_n (x := 0) (pc := 8) d_ga_home_8 rfl ?_
    refine ev_getR (pc := 9) d_ga_home_9 f_ga_10 (ly_at hX_8 0 rfl) gg_11 rfl (ly_rf hX_8 0 0 rfl) ?_
    refine ev_iload_n (x := x1) (pc := 12) d_ga_home_12 rfl ?_
    refine ev_callV (z := m_ne_hasKnot) (as := [.int x1]) (rest := []) (pc := 13) d_ga_home_13 (ly_at hX_8 1 rfl) lt13_5 rfl l_ga_91 i_ne_hasKnot v_ne_hasKnot o_ne_hasKnot rfl rfl (Nat.le_of_ble_eq_true rfl) rfl (Nat.le_of_ble_eq_true rfl) ⟨Nat.le_of_ble_eq_true rfl, Nat.le_of_ble_eq_true rfl⟩ (s_ne_hasKnot hX_8 x1 ) (fun r X1 hq => ?_)
    obtain ⟨rfl, rfl⟩ := hq
    show Ev E m_ga_home 16 [(0, .ref 0), (1, .int x1), (2, .int x2), (3, .int x3), (4, .int x4), (5, .ref a_10)] [.int (bz (iw x1 0 ((gI X_4 1 0) - 1)))] X_4 (0, 0) Q
    refine ev_ifz_eq (pc := 16) (tgt := 24) d_ga_home_16 (by decide) (fun c_15 => ?_) (fun c_15 => ?_)
    · have h_16 := h_7.1 c_15
      refine ev_iconst (v := (-1)) (pc := 24) d_ga_home_24 kc_i_m1 ?_
      exact ev_iret (pc := 25) ⟨Nat.le_of_ble_eq_true rfl, Nat.le_of_ble_eq_true rfl⟩ d_ga_home_25 rfl (vp_nar_int _) h_16
    · have h_17 := h_7.2 c_15
      refine ev_aload (x := a_10) (pc := 19) d_ga_home_19 rfl ?_
      refine ev_ifnonnull (pc := 21) (tgt := 26) d_ga_home_21 (by decide) ?_
      refine ev_iload_n (x := x2) (pc := 26) d_ga_home_26 rfl ?_
      refine ev_iconst (v := 1) (pc := 27) d_ga_home_27 kc_i_1 ?_
      refine ev_bipush (v := 20) (pc := 28) d_ga_home_28 kc_b_20 ?_
      refine ev_callS (z := m_ga_isWithin) (as := [.int x2, .int 1, .int 20]) (rest := []) (pc := 30) d_ga_home_30 l_ga_128 i_ga_isWithin o_ga_isWithin rfl rfl (Nat.le_of_ble_eq_true rfl) rfl (Nat.le_of_ble_eq_true rfl) ⟨Nat.le_of_ble_eq_true rfl, Nat.le_of_ble_eq_true rfl⟩ (s_ga_isWithin hX_8 x2 1 20) (fun r X1 hq => ?_)
      obtain ⟨rfl, rfl⟩ := hq
      show Ev E m_ga_home 33 [(0, .ref 0), (1, .int x1), (2, .int x2), (3, .int x3), (4, .int x4), (5, .ref a_10)] [.int (bz (iw x2 1 20))] X_4 (0, 0) Q
      refine ev_ifz_eq (pc := 33) (tgt := 46) d_ga_home_33 (by decide) (fun c_18 => ?_) (fun c_18 => ?_)
      · have h_19 := h_17.1 c_18
        refine ev_bipush (v := (-2)) (pc := 46) d_ga_home_46 kc_b_m2 ?_
        exact ev_iret (pc := 48) ⟨Nat.le_of_ble_eq_true rfl, Nat.le_of_ble_eq_true rfl⟩ d_ga_home_48 rfl (vp_nar_int _) h_19
      · have h_20 := h_17.2 c_18
        refine ev_iload_n (x := x3) (pc := 36) d_ga_home_36 rfl ?_
        refine ev_iconst (v := 0) (pc := 37) d_ga_home_37 kc_i_0 ?_
        refine ev_bipush (v := 31) (pc := 38) d_ga_home_38 kc_b_31 ?_
        refine ev_callS (z := m_ga_isWithin) (as := [.int x3, .int 0, .int 31]) (rest := []) (pc := 40) d_ga_home_40 l_ga_128 i_ga_isWithin o_ga_isWithin rfl rfl (Nat.le_of_ble_eq_true rfl) rfl (Nat.le_of_ble_eq_true rfl) ⟨Nat.le_of_ble_eq_true rfl, Nat.le_of_ble_eq_true rfl⟩ (s_ga_isWithin hX_8 x3 0 31) (fun r X1 hq => ?_)
        obtain ⟨rfl, rfl⟩ := hq
        show Ev E m_ga_home 43 [(0, .ref 0), (1, .int x1), (2, .int x2), (3, .int x3), (4, .int x4), (5, .ref a_10)] [.int (bz (iw x3 0 31))] X_4 (0, 0) Q
        refine ev_ifz_ne (pc := 43) (tgt := 49) d_ga_home_43 (by decide) (fun c_21 => ?_) (fun c_21 => ?_)
        · have h_22 := h_20.1 c_21
          refine ev_aload_n (x := 0) (pc := 49) d_ga_home_49 rfl ?_
          refine ev_getJ (v := (gI X_4 0 6)) (pc := 50) d_ga_home_50 f_ga_198 (ly_at hX_8 0 rfl) gg_11 rfl rfl ?_
          refine ev_bipush (v := 40) (pc := 53) d_ga_home_53 kc_b_40 ?_
          refine ev_icmp_lt (pc := 55) (tgt := 61) d_ga_home_55 (by decide) (fun c_24 => ?_) (fun c_24 => ?_)
          · have h_25 := h_22.1 c_24
            exact h_25
          · have h_26 := h_22.2 c_24
            refine ev_bipush (v := (-4)) (pc := 58) d_ga_home_58 kc_b_m4 ?_
            exact ev_iret (pc := 60) ⟨Nat.le_of_ble_eq_true rfl, Nat.le_of_ble_eq_true rfl⟩ d_ga_home_60 rfl (vp_nar_int _) h_26
        · have h_23 := h_20.2 c_21
          refine ev_bipush (v := (-2)) (pc := 46) d_ga_home_46 kc_b_m2 ?_
          exact ev_iret (pc := 48) ⟨Nat.le_of_ble_eq_true rfl, Nat.le_of_ble_eq_true rfl⟩ d_ga_home_48 rfl (vp_nar_int _) h_23
  · show Ev E m_ga_home 6 [(0, .ref 0), (1, .int x1), (2, .int x2), (3, .int x3), (4, .int x4)] [.null] X_4 (0, 0) Q
    refine ev_astoreN (L2 := [(0, .ref 0), (1, .int x1), (2, .int x2), (3, .int x3), (4, .int x4), (5, .null)]) (pc := 6) d_ga_home_6 rfl (Nat.le_of_ble_eq_true rfl) rfl ?_
    refine ev_aload_n (x := 0) (pc := 8) d_ga_home_8 rfl ?_
    refine ev_getR (pc := 9) d_ga_home_9 f_ga_10 (ly_at hX_8 0 rfl) gg_11 rfl (ly_rf hX_8 0 0 rfl) ?_
    refine ev_iload_n (x := x1) (pc := 12) d_ga_home_12 rfl ?_
    refine ev_callV (z := m_ne_hasKnot) (as := [.int x1]) (rest := []) (pc := 13) d_ga_home_13 (ly_at hX_8 1 rfl) lt13_5 rfl l_ga_91 i_ne_hasKnot v_ne_hasKnot o_ne_hasKnot rfl rfl (Nat.le_of_ble_eq_true rfl) rfl (Nat.le_of_ble_eq_true rfl) ⟨Nat.le_of_ble_eq_true rfl, Nat.le_of_ble_eq_true rfl⟩ (s_ne_hasKnot hX_8 x1 ) (fun r X1 hq => ?_)
    obtain ⟨rfl, rfl⟩ := hq
    show Ev E m_ga_home 16 [(0, .ref 0), (1, .int x1), (2, .int x2), (3, .int x3), (4, .int x4), (5, .null)] [.int (bz (iw x1 0 ((gI X_4 1 0) - 1)))] X_4 (0, 0) Q
    refine ev_ifz_eq (pc := 16) (tgt := 24) d_ga_home_16 (by decide) (fun c_27 => ?_) (fun c_27 => ?_)
    · have h_28 := h_14.1 c_27
      refine ev_iconst (v := (-1)) (pc := 24) d_ga_home_24 kc_i_m1 ?_
      exact ev_iret (pc := 25) ⟨Nat.le_of_ble_eq_true rfl, Nat.le_of_ble_eq_true rfl⟩ d_ga_home_25 rfl (vp_nar_int _) h_28
    · have h_29 := h_14.2 c_27
      refine ev_aloadN  (pc := 19) d_ga_home_19 rfl ?_
      refine ev_ifnonnullN (pc := 21) d_ga_home_21 ?_
      refine ev_iconst (v := (-1)) (pc := 24) d_ga_home_24 kc_i_m1 ?_
      exact ev_iret (pc := 25) ⟨Nat.le_of_ble_eq_true rfl, Nat.le_of_ble_eq_true rfl⟩ d_ga_home_25 rfl (vp_nar_int _) h_29
section MKM
variable {E : gp_E} {N : Nat → Nat} {S : gp_S} {X Y : gp_H}
def mkM (Y : gp_H) (a : Nat) (v1 v2 v3 v4 v5 : Int32) : gp_H := gp_sI (gp_sI (gp_sI (gp_sI (gp_sI (gp_sR Y a 0 (some 13)) a 1 v1) a 2 v2) a 3 v3) a 4 v4) a 5 v5
theorem mk_at (Y : gp_H) (a b k : Nat) (v1 v2 v3 v4 v5 : Int32) : gI (mkM Y a v1 v2 v3 v4 v5) b k = if b = a ∧ k = 5 then v5 else if b = a ∧ k = 4 then v4 else if b = a ∧ k = 3 then v3 else if b = a ∧ k = 2 then v2 else if b = a ∧ k = 1 then v1 else gI Y b k := rfl
theorem s_ri_init {a ci : Nat} (ha : gp_at X a (ci, 0)) (hg : ci < 13 ∧ gp_gid ci = 7) (v1 v2 v3 v4 v5 : Int32) : Ev E m_ri_init 0 [(0, .ref a), (1, .ref 13), (2, .int v1), (3, .int v2), (4, .int v3), (5, .int v4), (6, .int v5)] [] X (0, 0) (gp_q none (mkM X a v1 v2 v3 v4 v5)) := by
  refine ev_aload_n (x := a) (pc := 0) d_ri_init_0 rfl ?_
  refine ev_obj (rest := []) (pc := 1) d_ri_init_1 l_ri_3 x_obj1 x_obj2 ⟨Nat.le_of_ble_eq_true rfl, Nat.le_of_ble_eq_true rfl⟩ ?_
  refine ev_aload_n (x := a) (pc := 4) d_ri_init_4 rfl ?_
  refine ev_aload_n (x := 13) (pc := 5) d_ri_init_5 rfl ?_
  refine ev_putR (pc := 6) d_ri_init_6 f_ri_9 ha hg rfl (by first | exact Or.inl rfl | exact Or.inr ⟨rfl, rfl, rfl⟩) (fun _ => rfl) (fun _ => rfl) ?_
  refine ev_aload_n (x := a) (pc := 9) d_ri_init_9 rfl ?_
  refine ev_iload_n (x := v1) (pc := 10) d_ri_init_10 rfl ?_
  refine ev_putI (pc := 11) d_ri_init_11 f_ri_15 (at_sR ha) hg rfl (by first | exact Or.inl rfl | exact Or.inr ⟨rfl, rfl, rfl⟩) (vp_nar_int _) rfl ?_
  refine ev_aload_n (x := a) (pc := 14) d_ri_init_14 rfl ?_
  refine ev_iload_n (x := v2) (pc := 15) d_ri_init_15 rfl ?_
  refine ev_putI (pc := 16) d_ri_init_16 f_ri_19 (at_sI (at_sR ha)) hg rfl (by first | exact Or.inl rfl | exact Or.inr ⟨rfl, rfl, rfl⟩) (vp_nar_int _) rfl ?_
  refine ev_aload_n (x := a) (pc := 19) d_ri_init_19 rfl ?_
  refine ev_iload (x := v3) (pc := 20) d_ri_init_20 rfl ?_
  refine ev_putI (pc := 22) d_ri_init_22 f_ri_22 (at_sI (at_sI (at_sR ha))) hg rfl (by first | exact Or.inl rfl | exact Or.inr ⟨rfl, rfl, rfl⟩) (vp_nar_int _) rfl ?_
  refine ev_aload_n (x := a) (pc := 25) d_ri_init_25 rfl ?_
  refine ev_iload (x := v4) (pc := 26) d_ri_init_26 rfl ?_
  refine ev_putI (pc := 28) d_ri_init_28 f_ri_25 (at_sI (at_sI (at_sI (at_sR ha)))) hg rfl (by first | exact Or.inl rfl | exact Or.inr ⟨rfl, rfl, rfl⟩) (vp_nar_int _) rfl ?_
  refine ev_aload_n (x := a) (pc := 31) d_ri_init_31 rfl ?_
  refine ev_iload (x := v5) (pc := 32) d_ri_init_32 rfl ?_
  refine ev_putI (pc := 34) d_ri_init_34 f_ri_28 (at_sI (at_sI (at_sI (at_sI (at_sR ha))))) hg rfl (by first | exact Or.inl rfl | exact Or.inr ⟨rfl, rfl, rfl⟩) (vp_nar_int _) rfl ?_
  exact ev_ret (pc := 37) ⟨Nat.le_of_ble_eq_true rfl, Nat.le_of_ble_eq_true rfl⟩ d_ri_init_37 rfl ⟨rfl, rfl⟩
theorem s_ov_init {a ci : Nat} (ha : gp_at X a (ci, 0)) (hg : ci < 13 ∧ gp_gid ci = 7) (v1 v2 v3 v4 v5 : Int32) : Ev E m_ov_init 0 [(0, .ref a), (1, .ref 13), (2, .int v1), (3, .int v2), (4, .int v3), (5, .int v4), (6, .int v5)] [] X (0, 0) (gp_q none (mkM X a v1 v2 v3 v4 v5)) := by
  refine ev_aload_n (x := a) (pc := 0) d_ov_init_0 rfl ?_
  refine ev_aload_n (x := 13) (pc := 1) d_ov_init_1 rfl ?_
  refine ev_iload_n (x := v1) (pc := 2) d_ov_init_2 rfl ?_
  refine ev_iload_n (x := v2) (pc := 3) d_ov_init_3 rfl ?_
  refine ev_iload (x := v3) (pc := 4) d_ov_init_4 rfl ?_
  refine ev_iload (x := v4) (pc := 6) d_ov_init_6 rfl ?_
  refine ev_iload (x := v5) (pc := 8) d_ov_init_8 rfl ?_
  refine ev_callI (z := m_ri_init) (as := [.ref 13, .int v1, .int v2, .int v3, .int v4, .int v5]) (rest := []) (pc := 10) d_ov_init_10 l_ov_3 i_ri_init o_ri_init rfl rfl rfl rfl (Nat.le_of_ble_eq_true rfl) rfl (Nat.le_of_ble_eq_true rfl) ⟨Nat.le_of_ble_eq_true rfl, Nat.le_of_ble_eq_true rfl⟩ (s_ri_init ha hg v1 v2 v3 v4 v5) (fun r X' hq => ?_)
  obtain ⟨rfl, rfl⟩ := hq
  exact ev_ret (pc := 13) ⟨Nat.le_of_ble_eq_true rfl, Nat.le_of_ble_eq_true rfl⟩ d_ov_init_13 rfl ⟨rfl, rfl⟩
theorem s_fi_init {a ci : Nat} (ha : gp_at X a (ci, 0)) (hg : ci < 13 ∧ gp_gid ci = 7) (v1 v2 v3 v4 v5 : Int32) : Ev E m_fi_init 0 [(0, .ref a), (1, .ref 13), (2, .int v1), (3, .int v2), (4, .int v3), (5, .int v4), (6, .int v5)] [] X (0, 0) (gp_q none (mkM X a v1 v2 v3 v4 v5)) := by
  refine ev_aload_n (x := a) (pc := 0) d_fi_init_0 rfl ?_
  refine ev_aload_n (x := 13) (pc := 1) d_fi_init_1 rfl ?_
  refine ev_iload_n (x := v1) (pc := 2) d_fi_init_2 rfl ?_
  refine ev_iload_n (x := v2) (pc := 3) d_fi_init_3 rfl ?_
  refine ev_iload (x := v3) (pc := 4) d_fi_init_4 rfl ?_
  refine ev_iload (x := v4) (pc := 6) d_fi_init_6 rfl ?_
  refine ev_iload (x := v5) (pc := 8) d_fi_init_8 rfl ?_
  refine ev_callI (z := m_ri_init) (as := [.ref 13, .int v1, .int v2, .int v3, .int v4, .int v5]) (rest := []) (pc := 10) d_fi_init_10 l_fi_3 i_ri_init o_ri_init rfl rfl rfl rfl (Nat.le_of_ble_eq_true rfl) rfl (Nat.le_of_ble_eq_true rfl) ⟨Nat.le_of_ble_eq_true rfl, Nat.le_of_ble_eq_true rfl⟩ (s_ri_init ha hg v1 v2 v3 v4 v5) (fun r X' hq => ?_)
  obtain ⟨rfl, rfl⟩ := hq
  exact ev_ret (pc := 13) ⟨Nat.le_of_ble_eq_true rfl, Nat.le_of_ble_eq_true rfl⟩ d_fi_init_13 rfl ⟨rfl, rfl⟩
theorem s_gr_init {a ci : Nat} (ha : gp_at X a (ci, 0)) (hg : ci < 13 ∧ gp_gid ci = 7) (v1 v2 v3 v4 v5 : Int32) : Ev E m_gr_init 0 [(0, .ref a), (1, .ref 13), (2, .int v1), (3, .int v2), (4, .int v3), (5, .int v4), (6, .int v5)] [] X (0, 0) (gp_q none (mkM X a v1 v2 v3 v4 v5)) := by
  refine ev_aload_n (x := a) (pc := 0) d_gr_init_0 rfl ?_
  refine ev_aload_n (x := 13) (pc := 1) d_gr_init_1 rfl ?_
  refine ev_iload_n (x := v1) (pc := 2) d_gr_init_2 rfl ?_
  refine ev_iload_n (x := v2) (pc := 3) d_gr_init_3 rfl ?_
  refine ev_iload (x := v3) (pc := 4) d_gr_init_4 rfl ?_
  refine ev_iload (x := v4) (pc := 6) d_gr_init_6 rfl ?_
  refine ev_iload (x := v5) (pc := 8) d_gr_init_8 rfl ?_
  refine ev_callI (z := m_ov_init) (as := [.ref 13, .int v1, .int v2, .int v3, .int v4, .int v5]) (rest := []) (pc := 10) d_gr_init_10 l_gr_3 i_ov_init o_ov_init rfl rfl rfl rfl (Nat.le_of_ble_eq_true rfl) rfl (Nat.le_of_ble_eq_true rfl) ⟨Nat.le_of_ble_eq_true rfl, Nat.le_of_ble_eq_true rfl⟩ (s_ov_init ha hg v1 v2 v3 v4 v5) (fun r X' hq => ?_)
  obtain ⟨rfl, rfl⟩ := hq
  exact ev_ret (pc := 13) ⟨Nat.le_of_ble_eq_true rfl, Nat.le_of_ble_eq_true rfl⟩ d_gr_init_13 rfl ⟨rfl, rfl⟩
def kK (i : Nat) : Nat := if i = 1 then 6 else if i = 2 then 2 else if i = 3 then 1 else 7
theorem s_newModel (lX : Lay S X) {i : Nat} (hi : i ≤ 3) (x2 x3 x4 x5 : Int32) : Ev E m_ga_newModel 0 [(0, .ref 0), (1, .int (nI i)), (2, .int x2), (3, .int x3), (4, .int x4), (5, .int x5)] [] X (0, 0) (gp_q (some (.ref X.1)) (mkM (gp_nw X (kK i, 0)) X.1 (gI (gp_nw X (kK i, 0)) 0 4) x2 x3 x4 x5)) := by
  have l0 : 114 ≤ X.1 := lX.1
  refine ev_iload_n (x := nI i) (pc := 0) d_ga_newModel_0 rfl ?_
  rcases (show i = 0 ∨ i = 1 ∨ i = 2 ∨ i = 3 by omega) with e | e | e | e <;> subst e
  · refine ev_tableOut (pc := 1) (tgt := 94) d_ga_newModel_1 (by decide) (by decide) ?_
    refine ev_newJ (r := X.1) (u2 := (1, 6)) (ci := 7) (N := 6) (pc := 94) rfl d_ga_newModel_94 lt13_7 rfl c_ga_27 n_ri tt_ri ⟨Nat.le_of_ble_eq_true rfl, Nat.le_of_ble_eq_true rfl⟩ rfl ?_
    refine ev_dup (pc := 97) d_ga_newModel_97 rfl ?_
    refine ev_aload_n (x := 0) (pc := 98) d_ga_newModel_98 rfl ?_
    refine ev_getR (j := 13) (pc := 99) d_ga_newModel_99 f_ga_23 (at_nw (ly_at lX 0 rfl)) gg_11 rfl (rf_nw rfl (by omega) (ly_rf lX 0 2 rfl)) ?_
    refine ev_aload_n (x := 0) (pc := 102) d_ga_newModel_102 rfl ?_
    refine ev_getI (pc := 103) d_ga_newModel_103 f_ga_187 (at_nw (ly_at lX 0 rfl)) gg_11 rfl ?_
    refine ev_iload_n (x := x2) (pc := 106) d_ga_newModel_106 rfl ?_
    refine ev_iload_n (x := x3) (pc := 107) d_ga_newModel_107 rfl ?_
    refine ev_iload (x := x4) (pc := 108) d_ga_newModel_108 rfl ?_
    refine ev_iload (x := x5) (pc := 110) d_ga_newModel_110 rfl ?_
    refine ev_callI (z := m_ri_init) (as := [.ref 13, .int (gI (gp_nw X (7, 0)) 0 4), .int x2, .int x3, .int x4, .int x5]) (rest := [.ref X.1]) (pc := 112) d_ga_newModel_112 l_ga_498 i_ri_init o_ri_init rfl rfl rfl rfl (Nat.le_of_ble_eq_true rfl) rfl (Nat.le_of_ble_eq_true rfl) ⟨Nat.le_of_ble_eq_true rfl, Nat.le_of_ble_eq_true rfl⟩ (s_ri_init (at_new rfl) gg_7 _ x2 x3 x4 x5) (fun r X2 hq => ?_)
    obtain ⟨rfl, rfl⟩ := hq
    exact ev_aret (pc := 115) ⟨Nat.le_of_ble_eq_true rfl, Nat.le_of_ble_eq_true rfl⟩ d_ga_newModel_115 rfl (Or.inl ⟨_, rfl⟩) (Or.inr ⟨_, rfl⟩) ⟨rfl, rfl⟩
  · refine ev_tableIn (pc := 1) (off := 27) (tgt := 28) d_ga_newModel_1 (by decide) (by decide) (by decide) (by decide) ?_
    refine ev_newJ (r := X.1) (u2 := (1, 6)) (ci := 6) (N := 6) (pc := 28) rfl d_ga_newModel_28 lt13_6 rfl c_ga_487 n_ov tt_ov ⟨Nat.le_of_ble_eq_true rfl, Nat.le_of_ble_eq_true rfl⟩ rfl ?_
    refine ev_dup (pc := 31) d_ga_newModel_31 rfl ?_
    refine ev_aload_n (x := 0) (pc := 32) d_ga_newModel_32 rfl ?_
    refine ev_getR (j := 13) (pc := 33) d_ga_newModel_33 f_ga_23 (at_nw (ly_at lX 0 rfl)) gg_11 rfl (rf_nw rfl (by omega) (ly_rf lX 0 2 rfl)) ?_
    refine ev_aload_n (x := 0) (pc := 36) d_ga_newModel_36 rfl ?_
    refine ev_getI (pc := 37) d_ga_newModel_37 f_ga_187 (at_nw (ly_at lX 0 rfl)) gg_11 rfl ?_
    refine ev_iload_n (x := x2) (pc := 40) d_ga_newModel_40 rfl ?_
    refine ev_iload_n (x := x3) (pc := 41) d_ga_newModel_41 rfl ?_
    refine ev_iload (x := x4) (pc := 42) d_ga_newModel_42 rfl ?_
    refine ev_iload (x := x5) (pc := 44) d_ga_newModel_44 rfl ?_
    refine ev_callI (z := m_ov_init) (as := [.ref 13, .int (gI (gp_nw X (6, 0)) 0 4), .int x2, .int x3, .int x4, .int x5]) (rest := [.ref X.1]) (pc := 46) d_ga_newModel_46 l_ga_489 i_ov_init o_ov_init rfl rfl rfl rfl (Nat.le_of_ble_eq_true rfl) rfl (Nat.le_of_ble_eq_true rfl) ⟨Nat.le_of_ble_eq_true rfl, Nat.le_of_ble_eq_true rfl⟩ (s_ov_init (at_new rfl) gg_6 _ x2 x3 x4 x5) (fun r X2 hq => ?_)
    obtain ⟨rfl, rfl⟩ := hq
    exact ev_aret (pc := 49) ⟨Nat.le_of_ble_eq_true rfl, Nat.le_of_ble_eq_true rfl⟩ d_ga_newModel_49 rfl (Or.inl ⟨_, rfl⟩) (Or.inr ⟨_, rfl⟩) ⟨rfl, rfl⟩
  · refine ev_tableIn (pc := 1) (off := 49) (tgt := 50) d_ga_newModel_1 (by decide) (by decide) (by decide) (by decide) ?_
    refine ev_newJ (r := X.1) (u2 := (1, 6)) (ci := 2) (N := 6) (pc := 50) rfl d_ga_newModel_50 lt13_2 rfl c_ga_492 n_gr tt_gr ⟨Nat.le_of_ble_eq_true rfl, Nat.le_of_ble_eq_true rfl⟩ rfl ?_
    refine ev_dup (pc := 53) d_ga_newModel_53 rfl ?_
    refine ev_aload_n (x := 0) (pc := 54) d_ga_newModel_54 rfl ?_
    refine ev_getR (j := 13) (pc := 55) d_ga_newModel_55 f_ga_23 (at_nw (ly_at lX 0 rfl)) gg_11 rfl (rf_nw rfl (by omega) (ly_rf lX 0 2 rfl)) ?_
    refine ev_aload_n (x := 0) (pc := 58) d_ga_newModel_58 rfl ?_
    refine ev_getI (pc := 59) d_ga_newModel_59 f_ga_187 (at_nw (ly_at lX 0 rfl)) gg_11 rfl ?_
    refine ev_iload_n (x := x2) (pc := 62) d_ga_newModel_62 rfl ?_
    refine ev_iload_n (x := x3) (pc := 63) d_ga_newModel_63 rfl ?_
    refine ev_iload (x := x4) (pc := 64) d_ga_newModel_64 rfl ?_
    refine ev_iload (x := x5) (pc := 66) d_ga_newModel_66 rfl ?_
    refine ev_callI (z := m_gr_init) (as := [.ref 13, .int (gI (gp_nw X (2, 0)) 0 4), .int x2, .int x3, .int x4, .int x5]) (rest := [.ref X.1]) (pc := 68) d_ga_newModel_68 l_ga_494 i_gr_init o_gr_init rfl rfl rfl rfl (Nat.le_of_ble_eq_true rfl) rfl (Nat.le_of_ble_eq_true rfl) ⟨Nat.le_of_ble_eq_true rfl, Nat.le_of_ble_eq_true rfl⟩ (s_gr_init (at_new rfl) gg_2 _ x2 x3 x4 x5) (fun r X2 hq => ?_)
    obtain ⟨rfl, rfl⟩ := hq
    exact ev_aret (pc := 71) ⟨Nat.le_of_ble_eq_true rfl, Nat.le_of_ble_eq_true rfl⟩ d_ga_newModel_71 rfl (Or.inl ⟨_, rfl⟩) (Or.inr ⟨_, rfl⟩) ⟨rfl, rfl⟩
  · refine ev_tableIn (pc := 1) (off := 71) (tgt := 72) d_ga_newModel_1 (by decide) (by decide) (by decide) (by decide) ?_
    refine ev_newJ (r := X.1) (u2 := (1, 6)) (ci := 1) (N := 6) (pc := 72) rfl d_ga_newModel_72 lt13_1 rfl c_ga_495 n_fi tt_fi ⟨Nat.le_of_ble_eq_true rfl, Nat.le_of_ble_eq_true rfl⟩ rfl ?_
    refine ev_dup (pc := 75) d_ga_newModel_75 rfl ?_
    refine ev_aload_n (x := 0) (pc := 76) d_ga_newModel_76 rfl ?_
    refine ev_getR (j := 13) (pc := 77) d_ga_newModel_77 f_ga_23 (at_nw (ly_at lX 0 rfl)) gg_11 rfl (rf_nw rfl (by omega) (ly_rf lX 0 2 rfl)) ?_
    refine ev_aload_n (x := 0) (pc := 80) d_ga_newModel_80 rfl ?_
    refine ev_getI (pc := 81) d_ga_newModel_81 f_ga_187 (at_nw (ly_at lX 0 rfl)) gg_11 rfl ?_
    refine ev_iload_n (x := x2) (pc := 84) d_ga_newModel_84 rfl ?_
    refine ev_iload_n (x := x3) (pc := 85) d_ga_newModel_85 rfl ?_
    refine ev_iload (x := x4) (pc := 86) d_ga_newModel_86 rfl ?_
    refine ev_iload (x := x5) (pc := 88) d_ga_newModel_88 rfl ?_
    refine ev_callI (z := m_fi_init) (as := [.ref 13, .int (gI (gp_nw X (1, 0)) 0 4), .int x2, .int x3, .int x4, .int x5]) (rest := [.ref X.1]) (pc := 90) d_ga_newModel_90 l_ga_497 i_fi_init o_fi_init rfl rfl rfl rfl (Nat.le_of_ble_eq_true rfl) rfl (Nat.le_of_ble_eq_true rfl) ⟨Nat.le_of_ble_eq_true rfl, Nat.le_of_ble_eq_true rfl⟩ (s_fi_init (at_new rfl) gg_1 _ x2 x3 x4 x5) (fun r X2 hq => ?_)
    obtain ⟨rfl, rfl⟩ := hq
    exact ev_aret (pc := 93) ⟨Nat.le_of_ble_eq_true rfl, Nat.le_of_ble_eq_true rfl⟩ d_ga_newModel_93 rfl (Or.inl ⟨_, rfl⟩) (Or.inr ⟨_, rfl⟩) ⟨rfl, rfl⟩
theorem kK_g {i : Nat} (hi : i ≤ 3) : kK i < 13 ∧ gp_gid (kK i) = 7 ∧ kdF (kK i) = nI i := by
  rcases (show i = 0 ∨ i = 1 ∨ i = 2 ∨ i = 3 by omega) with e | e | e | e <;> subst e <;> decide
theorem kK_c {i : Nat} (hi : i ≤ 3) : gp_R (kK i) = "GasTurn$Ring" ∨ Cond.castable (gp_R (kK i)) "GasTurn$Ring" ∈ lw_n := by
  rcases (show i = 0 ∨ i = 1 ∨ i = 2 ∨ i = 3 by omega) with e | e | e | e <;> subst e
  · exact Or.inl rfl
  · exact Or.inr q_ov_ri
  · exact Or.inr q_gr_ri
  · exact Or.inr q_fi_ri
/-- a new model, on the class's side -/
def mdX (X : gp_H) (i m : Nat) (x2 x3 x4 x5 : Int32) : gp_H := gp_sI (gp_sR (mkM (gp_nw X (kK i, 0)) X.1 (nI m) x2 x3 x4 x5) 15 m (some X.1)) 0 4 (nI (m + 1))
theorem s_model65 (lX : Lay S X) {i m : Nat} (hi : i ≤ 3) (hm : m < 12) (e4 : gI X 0 4 = nI m) (x2 x3 x4 x5 : Int32) {Q : Option Value → gp_H → Prop} (hq : Q (some (.int (nI m))) (mdX X i m x2 x3 x4 x5)) : Ev E m_ga_model 65 [(0, .ref 0), (1, .int (nI i)), (2, .int x2), (3, .int x3), (4, .int x4), (5, .int x5)] [] X (0, 0) Q := by
  have l0 : 114 ≤ X.1 := lX.1
  have e4' : gI (gp_nw X (kK i, 0)) 0 4 = nI m := by
    show (if 0 = X.1 then (fun _ => (0 : Int32)) else X.2.2.2.1 0) 4 = _
    rw [if_neg (by omega)]; exact e4
  have a0 : gp_at (gp_nw X (kK i, 0)) 0 (11, 0) := at_nw (ly_at lX 0 rfl)
  have a15 : gp_at (gp_nw X (kK i, 0)) 15 (16, 12) := at_nw (ly_at lX 15 rfl)
  have an : gp_at (gp_nw X (kK i, 0)) X.1 (kK i, 0) := at_new rfl
  refine ev_aload_n (x := 0) (pc := 65) d_ga_model_65 rfl ?_
  refine ev_getR (j := 15) (pc := 66) d_ga_model_66 f_ga_29 (ly_at lX 0 rfl) gg_11 rfl (ly_rf lX 0 3 rfl) ?_
  refine ev_aload_n (x := 0) (pc := 69) d_ga_model_69 rfl ?_
  refine ev_getI (pc := 70) d_ga_model_70 f_ga_187 (ly_at lX 0 rfl) gg_11 rfl ?_
  have e4'' : X.2.2.2.1 0 4 = nI m := e4
  rw [e4'']
  refine ev_aload_n (x := 0) (pc := 73) d_ga_model_73 rfl ?_
  refine ev_iload_n (x := nI i) (pc := 74) d_ga_model_74 rfl ?_
  refine ev_iload_n (x := x2) (pc := 75) d_ga_model_75 rfl ?_
  refine ev_iload_n (x := x3) (pc := 76) d_ga_model_76 rfl ?_
  refine ev_iload (x := x4) (pc := 77) d_ga_model_77 rfl ?_
  refine ev_iload (x := x5) (pc := 79) d_ga_model_79 rfl ?_
  refine ev_callV (z := m_ga_newModel) (as := [.int (nI i), .int x2, .int x3, .int x4, .int x5]) (rest := [.int (nI m), .ref 15]) (pc := 81) d_ga_model_81 (ly_at lX 0 rfl) lt13_11 rfl l_ga_190 i_ga_newModel v_ga_newModel o_ga_newModel rfl rfl (Nat.le_of_ble_eq_true rfl) rfl (Nat.le_of_ble_eq_true rfl) ⟨Nat.le_of_ble_eq_true rfl, Nat.le_of_ble_eq_true rfl⟩ (s_newModel lX hi x2 x3 x4 x5) (fun r X2 hq2 => ?_)
  obtain ⟨rfl, rfl⟩ := hq2
  rw [e4']
  show Ev E m_ga_model 84 _ [.ref X.1, .int (nI m), .ref 15] _ (1, 6) Q
  refine ev_ast3 (n := 12) (pc := 84) d_ga_model_84 a15 (vin hm (by omega)) an (kK_g hi).1 (kK_c hi) ?_
  rw [nI_c (by omega)]
  refine ev_aload_n (x := 0) (pc := 85) d_ga_model_85 rfl ?_
  refine ev_dup (pc := 86) d_ga_model_86 rfl ?_
  refine ev_getI (pc := 87) d_ga_model_87 f_ga_187 a0 gg_11 rfl ?_
  have e5 : (gp_sR (mkM (gp_nw X (kK i, 0)) X.1 (nI m) x2 x3 x4 x5) 15 m (some X.1)).2.2.2.1 0 4 = nI m := by
    show gI (mkM (gp_nw X (kK i, 0)) X.1 (nI m) x2 x3 x4 x5) 0 4 = _
    rw [mk_at, if_neg (by omega), if_neg (by omega), if_neg (by omega), if_neg (by omega), if_neg (by omega)]
    exact e4'
  rw [e5]
  refine ev_dup_x1 (pc := 90) d_ga_model_90 rfl rfl ?_
  refine ev_iconst (v := 1) (pc := 91) d_ga_model_91 kc_i_1 ?_
  refine ev_iadd (pc := 92) d_ga_model_92 ?_
  refine ev_putI (pc := 93) d_ga_model_93 f_ga_187 a0 gg_11 rfl (by first | exact Or.inl rfl | exact Or.inr ⟨rfl, rfl, rfl⟩) (vp_nar_int _) rfl ?_
  rw [nI_s]
  exact ev_iret (pc := 96) ⟨Nat.le_of_ble_eq_true rfl, Nat.le_of_ble_eq_true rfl⟩ d_ga_model_96 rfl (vp_nar_int _) hq
end MKM
