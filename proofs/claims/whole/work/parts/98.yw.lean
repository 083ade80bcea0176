theorem b_la_match_0 {E : gp_E} {S : gp_S} {X : gp_H} {Q : Option Value → gp_H → Prop} {a1 : UInt32} {ia1 : Nat} (hX : Lay S X) (hia1 : ia1 < 2) (hfa1 : a1.toNat = 2 * ia1) (hh : Ev E m_la_match 7 [(0, .ref 40), (1, .float a1), (2, .int 0), (3, .int 0), (4, .int 0)] [] X (0, 0) Q) : Ev E m_la_match 0 [(0, .ref 40), (1, .float a1)] [] X (0, 0) Q := by
  refine ev_iconst (v := 0) (pc := 0) d_la_match_0 kc_i_0 ?_
  refine ev_istore_n (L2 := [(0, .ref 40), (1, .float a1), (2, .int 0)]) (pc := 1) d_la_match_1 rfl (Nat.le_of_ble_eq_true rfl) rfl ?_
  refine ev_iconst (v := 0) (pc := 2) d_la_match_2 kc_i_0 ?_
  refine ev_istore_n (L2 := [(0, .ref 40), (1, .float a1), (2, .int 0), (3, .int 0)]) (pc := 3) d_la_match_3 rfl (Nat.le_of_ble_eq_true rfl) rfl ?_
  refine ev_iconst (v := 0) (pc := 4) d_la_match_4 kc_i_0 ?_
  refine ev_istore (L2 := [(0, .ref 40), (1, .float a1), (2, .int 0), (3, .int 0), (4, .int 0)]) (pc := 5) d_la_match_5 rfl (Nat.le_of_ble_eq_true rfl) rfl ?_
  exact hh
theorem b_la_match_7 {E : gp_E} {S : gp_S} {X : gp_H} {Q : Option Value → gp_H → Prop} {x1 : UInt32} {ix1 : Nat} {x2 : Int32} {x3 : Int32} {x4 : Int32} (hX : Lay S X) (hix1 : ix1 < 2) (hfx1 : x1.toNat = 2 * ix1) (hh : (∃ Qz_1, Ev E m_st_length 0 [(0, .float x1)] [] X (0, 0) Qz_1 ∧ ∀ r X_4, Qz_1 r X_4 → ∃ v_9 : Int32, r = some (.int v_9) ∧ Lay S X_4 ∧ ((v_9 ≤ x4 → (((gI X_4 40 0) ≤ x2 → Q (some (.int (-1))) X_4) ∧ (¬ (gI X_4 40 0) ≤ x2 → Q (some (.int x2)) X_4))) ∧ (¬ v_9 ≤ x4 → (∃ Qz_16, Ev E m_st_charAt 0 [(0, .float x1), (1, .int x4)] [] X_4 (0, 0) Qz_16 ∧ ∀ r X_19, Qz_16 r X_19 → ∃ v_24 : Int32, r = some (.int v_24) ∧ Lay S X_19 ∧ (∃ Qz_25, Ev E m_la_isDigit 0 [(0, .int v_24)] [] X_19 (0, 0) Qz_25 ∧ ∀ r X_28, Qz_25 r X_28 → ∃ v_33 : Int32, r = some (.int v_33) ∧ Lay S X_28 ∧ ((v_33 = 0 → (((gI X_28 40 0) ≤ x2 → Q (some (.int x2)) X_28) ∧ (¬ (gI X_28 40 0) ≤ x2 → (vp_in x2 60 ∧ (((gI X_28 41 (Int32.toNatClampNeg x2)) = v_24 → Ev E m_la_match 7 [(0, .ref 40), (1, .float x1), (2, .int (x2 + 1)), (3, .int x3), (4, .int (x4 + 1))] [] X_28 (0, 0) Q) ∧ (¬ (gI X_28 41 (Int32.toNatClampNeg x2)) = v_24 → Q (some (.int x2)) X_28)))))) ∧ (¬ v_33 = 0 → (∃ Qz_43, Ev E m_la_endOfDigits 0 [(0, .ref 40), (1, .int x2), (2, .int (v_24 - 48))] [] X_28 (0, 0) Qz_43 ∧ ∀ r X_46, Qz_43 r X_46 → ∃ v_51 : Int32, r = some (.int v_51) ∧ Lay S X_46 ∧ ((¬ v_51 = x2 → ((3 ≤ x3 → Ev E m_la_match 73 [(0, .ref 40), (1, .float x1), (2, .int x2), (3, .int x3), (4, .int x4), (5, .int v_24), (6, .int v_51)] [] X_46 (0, 0) Q) ∧ (¬ 3 ≤ x3 → (∃ Qz_58, Ev E m_la_valueOf 0 [(0, .ref 40), (1, .int x2), (2, .int v_51)] [] X_46 (0, 0) Qz_58 ∧ ∀ r X_61, Qz_58 r X_61 → ∃ v_66 : Int32, r = some (.int v_66) ∧ Lay S X_61 ∧ (vp_in x3 3 ∧ Ev E m_la_match 73 [(0, .ref 40), (1, .float x1), (2, .int x2), (3, .int (x3 + 1)), (4, .int x4), (5, .int v_24), (6, .int v_51)] [] (gp_sI X_61 47 (Int32.toNatClampNeg x3) v_66) (0, 0) Q))))) ∧ (v_51 = x2 → Q (some (.int x2)) X_46))))))))))) : Ev E m_la_match 7 [(0, .ref 40), (1, .float x1), (2, .int x2), (3, .int x3), (4, .int x4)] [] X (0, 0) Q := by
  refine ev_iload (x := x4) (pc := 7) d_la_match_7 rfl ?_
  refine ev_aload_nS (x := x1) (pc := 9) d_la_match_9 rfl ?_
  obtain ⟨Qz_1, hc_2, hk_3⟩ := hh
  refine ev_callVS hix1 hfx1 (z := m_st_length) (as := []) (rest := [.int x4]) (pc := 10) d_la_match_10 rfl l_la_59 i_st_length v_st_length o_st_length rfl rfl (Nat.le_of_ble_eq_true rfl) rfl (Nat.le_of_ble_eq_true rfl) ⟨Nat.le_of_ble_eq_true rfl, Nat.le_of_ble_eq_true rfl⟩ hc_2 (fun r_5 X_4 hq_6 => ?_)
  obtain ⟨v_9, rfl, hX_8, h_7⟩ := hk_3 _ _ hq_6
  show Ev E m_la_match 13 [(0, .ref 40), (1, .float x1), (2, .int x2), (3, .int x3), (4, .int x4)] [.int v_9, .int x4] X_4 (0, 0) Q
  refine ev_icmp_ge (pc := 13) (tgt := 109) d_la_match_13 (by decide) (fun c_10 => ?_) (fun c_10 => ?_)
  · have h_11 := h_7.1 c_10
    refine ev_iload_n (x := x2) (pc := 109) d_la_match_109 rfl ?_
    refine ev_aload_n (x := 40) (pc := 110) d_la_match_110 rfl ?_
    refine ev_getJ (v := (gI X_4 40 0)) (pc := 111) d_la_match_111 f_la_34 (ly_at hX_8 40 rfl) gg_4 rfl rfl ?_
    refine ev_icmp_ge (pc := 114) (tgt := 121) d_la_match_114 (by decide) (fun c_13 => ?_) (fun c_13 => ?_)
    · have h_14 := h_11.1 c_13
      refine ev_iconst (v := (-1)) (pc := 121) d_la_match_121 kc_i_m1 ?_
      exact ev_iret (pc := 122) ⟨Nat.le_of_ble_eq_true rfl, Nat.le_of_ble_eq_true rfl⟩ d_la_match_122 rfl (vp_nar_int _) h_14
    · have h_15 := h_11.2 c_13
      refine ev_iload_n (x := x2) (pc := 117) d_la_match_117 rfl ?_
      refine ev_goto (pc := 118) (tgt := 122) d_la_match_118 (by decide) ?_
      exact ev_iret (pc := 122) ⟨Nat.le_of_ble_eq_true rfl, Nat.le_of_ble_eq_true rfl⟩ d_la_match_122 rfl (vp_nar_int _) h_15
  · have h_12 := h_7.2 c_10
    refine ev_aload_nS (x := x1) (pc := 16) d_la_match_16 rfl ?_
    refine ev_iload (x := x4) (pc := 17) d_la_match_17 rfl ?_
    obtain ⟨Qz_16, hc_17, hk_18⟩ := h_12
    refine ev_callVS hix1 hfx1 (z := m_st_charAt) (as := [.int x4]) (rest := []) (pc := 19) d_la_match_19 rfl l_la_65 i_st_charAt v_st_charAt o_st_charAt rfl rfl (Nat.le_of_ble_eq_true rfl) rfl (Nat.le_of_ble_eq_true rfl) ⟨Nat.le_of_ble_eq_true rfl, Nat.le_of_ble_eq_true rfl⟩ hc_17 (fun r_20 X_19 hq_21 => ?_)
    obtain ⟨v_24, rfl, hX_23, h_22⟩ := hk_18 _ _ hq_21
    show Ev E m_la_match 22 [(0, .ref 40), (1, .float x1), (2, .int x2), (3, .int x3), (4, .int x4)] [.int v_24] X_19 (0, 0) Q
    refine ev_istore (L2 := [(0, .ref 40), (1, .float x1), (2, .int x2), (3, .int x3), (4, .int x4), (5, .int v_24)]) (pc := 22) d_la_match_22 rfl (Nat.le_of_ble_eq_true rfl) rfl ?_
    refine ev_iload (x := v_24) (pc := 24) d_la_match_24 rfl ?_
    obtain ⟨Qz_25, hc_26, hk_27⟩ := h_22
    refine ev_callS (z := m_la_isDigit) (as := [.int v_24]) (rest := []) (pc := 26) d_la_match_26 l_la_69 i_la_isDigit o_la_isDigit rfl rfl (Nat.le_of_ble_eq_true rfl) rfl (Nat.le_of_ble_eq_true rfl) ⟨Nat.le_of_ble_eq_true rfl, Nat.le_of_ble_eq_true rfl⟩ hc_26 (fun r_29 X_28 hq_30 => ?_)
    obtain ⟨v_33, rfl, hX_32, h_31⟩ := hk_27 _ _ hq_30
    show Ev E m_la_match 29 [(0, .ref 40), (1, .float x1), (2, .int x2), (3, .int x3), (4, .int x4), (5, .int v_24)] [.int v_33] X_28 (0, 0) Q
    refine ev_if_eq (pc := 29) (tgt := 79) d_la_match_29 (by decide) (fun c_34 => ?_) (fun c_34 => ?_)
    · have h_35 := h_31.1 c_34
      refine ev_iload_n (x := x2) (pc := 79) d_la_match_79 rfl ?_
      refine ev_aload_n (x := 40) (pc := 80) d_la_match_80 rfl ?_
      refine ev_getJ (v := (gI X_28 40 0)) (pc := 81) d_la_match_81 f_la_34 (ly_at hX_32 40 rfl) gg_4 rfl rfl ?_
      refine ev_icmp_ge (pc := 84) (tgt := 98) d_la_match_84 (by decide) (fun c_37 => ?_) (fun c_37 => ?_)
      · have h_38 := h_35.1 c_37
        refine ev_iload_n (x := x2) (pc := 98) d_la_match_98 rfl ?_
        exact ev_iret (pc := 99) ⟨Nat.le_of_ble_eq_true rfl, Nat.le_of_ble_eq_true rfl⟩ d_la_match_99 rfl (vp_nar_int _) h_38
      · have h_39 := h_35.2 c_37
        refine ev_aload_n (x := 40) (pc := 87) d_la_match_87 rfl ?_
        refine ev_getR (pc := 88) d_la_match_88 f_la_9 (ly_at hX_32 40 rfl) gg_4 rfl (ly_rf hX_32 40 1 rfl) ?_
        refine ev_iload_n (x := x2) (pc := 91) d_la_match_91 rfl ?_
        refine ev_ialdJ (v := (gI X_28 41 (Int32.toNatClampNeg x2))) (pc := 92) d_la_match_92 (ly_at hX_32 41 rfl) h_39.1 rfl ?_
        refine ev_iload (x := v_24) (pc := 93) d_la_match_93 rfl ?_
        refine ev_icmp_eq (pc := 95) (tgt := 100) d_la_match_95 (by decide) (fun c_40 => ?_) (fun c_40 => ?_)
        · have h_41 := h_39.2.1 c_40
          refine ev_iinc (v := (x2 + 1)) (L2 := [(0, .ref 40), (1, .float x1), (2, .int (x2 + 1)), (3, .int x3), (4, .int x4), (5, .int v_24)]) (pc := 100) d_la_match_100 rfl (by rw [kc_i_1]) rfl (Nat.le_of_ble_eq_true rfl) rfl ?_
          refine ev_iinc (v := (x4 + 1)) (L2 := [(0, .ref 40), (1, .float x1), (2, .int (x2 + 1)), (3, .int x3), (4, .int (x4 + 1)), (5, .int v_24)]) (pc := 103) d_la_match_103 rfl (by rw [kc_i_1]) rfl (Nat.le_of_ble_eq_true rfl) rfl ?_
          refine ev_goto (pc := 106) (tgt := 7) d_la_match_106 (by decide) ?_
          exact ev_sub [(0, .ref 40), (1, .float x1), (2, .int (x2 + 1)), (3, .int x3), (4, .int (x4 + 1))] (List.forall_mem_cons.mpr ⟨rfl, (List.forall_mem_cons.mpr ⟨rfl, (List.forall_mem_cons.mpr ⟨rfl, (List.forall_mem_cons.mpr ⟨rfl, (List.forall_mem_cons.mpr ⟨rfl, (fun _ h => nomatch h)⟩)⟩)⟩)⟩)⟩) h_41
        · have h_42 := h_39.2.2 c_40
          refine ev_iload_n (x := x2) (pc := 98) d_la_match_98 rfl ?_
          exact ev_iret (pc := 99) ⟨Nat.le_of_ble_eq_true rfl, Nat.le_of_ble_eq_true rfl⟩ d_la_match_99 rfl (vp_nar_int _) h_42
    · have h_36 := h_31.2 c_34
      refine ev_aload_n (x := 40) (pc := 32) d_la_match_32 rfl ?_
      refine ev_iload_n (x := x2) (pc := 33) d_la_match_33 rfl ?_
      refine ev_iload (x := v_24) (pc := 34) d_la_match_34 rfl ?_
      refine ev_bipush (v := 48) (pc := 36) d_la_match_36 kc_b_48 ?_
      refine ev_isub (pc := 38) d_la_match_38 ?_
      obtain ⟨Qz_43, hc_44, hk_45⟩ := h_36
      refine ev_callV (z := m_la_endOfDigits) (as := [.int x2, .int (v_24 - 48)]) (rest := []) (pc := 39) d_la_match_39 (ly_at hX_32 40 rfl) lt13_4 rfl l_la_73 i_la_endOfDigits v_la_endOfDigits o_la_endOfDigits rfl rfl (Nat.le_of_ble_eq_true rfl) rfl (Nat.le_of_ble_eq_true rfl) ⟨Nat.le_of_ble_eq_true rfl, Nat.le_of_ble_eq_true rfl⟩ hc_44 (fun r_47 X_46 hq_48 => ?_)
      obtain ⟨v_51, rfl, hX_50, h_49⟩ := hk_45 _ _ hq_48
      show Ev E m_la_match 42 [(0, .ref 40), (1, .float x1), (2, .int x2), (3, .int x3), (4, .int x4), (5, .int v_24)] [.int v_51] X_46 (0, 0) Q
      refine ev_istore (L2 := [(0, .ref 40), (1, .float x1), (2, .int x2), (3, .int x3), (4, .int x4), (5, .int v_24), (6, .int v_51)]) (pc := 42) d_la_match_42 rfl (Nat.le_of_ble_eq_true rfl) rfl ?_
      refine ev_iload (x := v_51) (pc := 44) d_la_match_44 rfl ?_
      refine ev_iload_n (x := x2) (pc := 46) d_la_match_46 rfl ?_
      refine ev_icmp_ne (pc := 47) (tgt := 52) d_la_match_47 (by decide) (fun c_52 => ?_) (fun c_52 => ?_)
      · have h_53 := h_49.1 c_52
        refine ev_iload_n (x := x3) (pc := 52) d_la_match_52 rfl ?_
        refine ev_iconst (v := 3) (pc := 53) d_la_match_53 kc_i_3 ?_
        refine ev_icmp_ge (pc := 54) (tgt := 73) d_la_match_54 (by decide) (fun c_55 => ?_) (fun c_55 => ?_)
        · have h_56 := h_53.1 c_55
          exact h_56
        · have h_57 := h_53.2 c_55
          refine ev_aload_n (x := 40) (pc := 57) d_la_match_57 rfl ?_
          refine ev_getR (pc := 58) d_la_match_58 f_la_31 (ly_at hX_50 40 rfl) gg_4 rfl (ly_rf hX_50 40 8 rfl) ?_
          refine ev_iload_n (x := x3) (pc := 61) d_la_match_61 rfl ?_
          refine ev_iinc (v := (x3 + 1)) (L2 := [(0, .ref 40), (1, .float x1), (2, .int x2), (3, .int (x3 + 1)), (4, .int x4), (5, .int v_24), (6, .int v_51)]) (pc := 62) d_la_match_62 rfl (by rw [kc_i_1]) rfl (Nat.le_of_ble_eq_true rfl) rfl ?_
          refine ev_aload_n (x := 40) (pc := 65) d_la_match_65 rfl ?_
          refine ev_iload_n (x := x2) (pc := 66) d_la_match_66 rfl ?_
          refine ev_iload (x := v_51) (pc := 67) d_la_match_67 rfl ?_
          obtain ⟨Qz_58, hc_59, hk_60⟩ := h_57
          refine ev_callV (z := m_la_valueOf) (as := [.int x2, .int v_51]) (rest := [.int x3, .ref 47]) (pc := 69) d_la_match_69 (ly_at hX_50 40 rfl) lt13_4 rfl l_la_76 i_la_valueOf v_la_valueOf o_la_valueOf rfl rfl (Nat.le_of_ble_eq_true rfl) rfl (Nat.le_of_ble_eq_true rfl) ⟨Nat.le_of_ble_eq_true rfl, Nat.le_of_ble_eq_true rfl⟩ hc_59 (fun r_62 X_61 hq_63 => ?_)
          obtain ⟨v_66, rfl, hX_65, h_64⟩ := hk_60 _ _ hq_63
          show Ev E m_la_match 72 [(0, .ref 40), (1, .float x1), (2, .int x2), (3, .int (x3 + 1)), (4, .int x4), (5, .int v_24), (6, .int v_51)] [.int v_66, .int x3, .ref 47] X_61 (0, 0) Q
          refine ev_iast (pc := 72) d_la_match_72 (ly_at hX_65 47 rfl) h_64.1 ?_
          exact h_64.2
      · have h_54 := h_49.2 c_52
        refine ev_iload_n (x := x2) (pc := 50) d_la_match_50 rfl ?_
        exact ev_iret (pc := 51) ⟨Nat.le_of_ble_eq_true rfl, Nat.le_of_ble_eq_true rfl⟩ d_la_match_51 rfl (vp_nar_int _) h_54
theorem b_la_match_73 {E : gp_E} {S : gp_S} {X : gp_H} {Q : Option Value → gp_H → Prop} {x1 : UInt32} {ix1 : Nat} {x2 : Int32} {x3 : Int32} {x4 : Int32} {x5 : Int32} {x6 : Int32} (hX : Lay S X) (hix1 : ix1 < 2) (hfx1 : x1.toNat = 2 * ix1) (hh : Ev E m_la_match 7 [(0, .ref 40), (1, .float x1), (2, .int x6), (3, .int x3), (4, .int (x4 + 1))] [] X (0, 0) Q) : Ev E m_la_match 73 [(0, .ref 40), (1, .float x1), (2, .int x2), (3, .int x3), (4, .int x4), (5, .int x5), (6, .int x6)] [] X (0, 0) Q := by
  refine ev_iload (x := x6) (pc := 73) d_la_match_73 rfl ?_
  refine ev_istore_n (L2 := [(0, .ref 40), (1, .float x1), (2, .int x6), (3, .int x3), (4, .int x4), (5, .int x5), (6, .int x6)]) (pc := 75) d_la_match_75 rfl (Nat.le_of_ble_eq_true rfl) rfl ?_
  refine ev_goto (pc := 76) (tgt := 103) d_la_match_76 (by decide) ?_
  refine ev_iinc (v := (x4 + 1)) (L2 := [(0, .ref 40), (1, .float x1), (2, .int x6), (3, .int x3), (4, .int (x4 + 1)), (5, .int x5), (6, .int x6)]) (pc := 103) d_la_match_103 rfl (by rw [kc_i_1]) rfl (Nat.le_of_ble_eq_true rfl) rfl ?_
  refine ev_goto (pc := 106) (tgt := 7) d_la_match_106 (by decide) ?_
  exact ev_sub [(0, .ref 40), (1, .float x1), (2, .int x6), (3, .int x3), (4, .int (x4 + 1))] (List.forall_mem_cons.mpr ⟨rfl, (List.forall_mem_cons.mpr ⟨rfl, (List.forall_mem_cons.mpr ⟨rfl, (List.forall_mem_cons.mpr ⟨rfl, (List.forall_mem_cons.mpr ⟨rfl, (fun _ h => nomatch h)⟩)⟩)⟩)⟩)⟩) hh
