theorem b_mo_ends_0 {E : gp_E} {S : gp_S} {X : gp_H} {Q : Option Value → gp_H → Prop}  (hX : Lay S X)  (hh : Ev E m_mo_ends 2 [(0, .ref 55), (1, .int 0)] [] X (0, 0) Q) : Ev E m_mo_ends 0 [(0, .ref 55)] [] X (0, 0) Q := by
  refine ev_iconst (v := 0) (pc := 0) d_mo_ends_0 kc_i_0 ?_
  refine ev_istore_n (L2 := [(0, .ref 55), (1, .int 0)]) (pc := 1) d_mo_ends_1 rfl (Nat.le_of_ble_eq_true rfl) rfl ?_
  exact hh
theorem b_mo_ends_2 {E : gp_E} {S : gp_S} {X : gp_H} {Q : Option Value → gp_H → Prop} {x1 : Int32} (hX : Lay S X)  (hh : (((gI X 55 6) ≤ x1 → Ev E m_mo_ends 25 [(0, .ref 55), (1, .int 0)] [] X (0, 0) Q) ∧ (¬ (gI X 55 6) ≤ x1 → (vp_in x1 5 ∧ Ev E m_mo_ends 2 [(0, .ref 55), (1, .int (x1 + 1))] [] (gp_sI X 108 (Int32.toNatClampNeg x1) 0) (0, 0) Q)))) : Ev E m_mo_ends 2 [(0, .ref 55), (1, .int x1)] [] X (0, 0) Q := by
  refine ev_iload_n (x := x1) (pc := 2) d_mo_ends_2 rfl ?_
  refine ev_aload_n (x := 55) (pc := 3) d_mo_ends_3 rfl ?_
  refine ev_getJ (v := (gI X 55 6)) (pc := 4) d_mo_ends_4 f_mo_219 (ly_at hX 55 rfl) gg_12 rfl rfl ?_
  refine ev_icmp_ge (pc := 7) (tgt := 23) d_mo_ends_7 (by decide) (fun c_1 => ?_) (fun c_1 => ?_)
  · have h_2 := hh.1 c_1
    refine ev_iconst (v := 0) (pc := 23) d_mo_ends_23 kc_i_0 ?_
    refine ev_istore_n (L2 := [(0, .ref 55), (1, .int 0)]) (pc := 24) d_mo_ends_24 rfl (Nat.le_of_ble_eq_true rfl) rfl ?_
    exact h_2
  · have h_3 := hh.2 c_1
    refine ev_aload_n (x := 55) (pc := 10) d_mo_ends_10 rfl ?_
    refine ev_getR (pc := 11) d_mo_ends_11 f_mo_174 (ly_at hX 55 rfl) gg_12 rfl (ly_rf hX 55 71 rfl) ?_
    refine ev_iload_n (x := x1) (pc := 14) d_mo_ends_14 rfl ?_
    refine ev_iconst (v := 0) (pc := 15) d_mo_ends_15 kc_i_0 ?_
    refine ev_zast (pc := 16) d_mo_ends_16 (ly_at hX 108 rfl) h_3.1 nb_0 ?_
    refine ev_iinc (v := (x1 + 1)) (L2 := [(0, .ref 55), (1, .int (x1 + 1))]) (pc := 17) d_mo_ends_17 rfl (by rw [kc_i_1]) rfl (Nat.le_of_ble_eq_true rfl) rfl ?_
    refine ev_goto (pc := 20) (tgt := 2) d_mo_ends_20 (by decide) ?_
    exact h_3.2
theorem b_mo_ends_25 {E : gp_E} {S : gp_S} {X : gp_H} {Q : Option Value → gp_H → Prop} {x1 : Int32} (hX : Lay S X)  (hh : (((gI X 55 6) ≤ x1 → Ev E m_mo_ends 83 [(0, .ref 55), (1, .int 0)] [] (gp_sI X 55 44 ((gI X 55 44) + 1)) (0, 0) Q) ∧ (¬ (gI X 55 6) ≤ x1 → (vp_in x1 5 ∧ (((gI X 63 (Int32.toNatClampNeg x1)) = 0 → Ev E m_mo_ends 25 [(0, .ref 55), (1, .int (x1 + 1))] [] X (0, 0) Q) ∧ (¬ (gI X 63 (Int32.toNatClampNeg x1)) = 0 → ((¬ (gI X 108 (Int32.toNatClampNeg x1)) = 0 → Ev E m_mo_ends 25 [(0, .ref 55), (1, .int (x1 + 1))] [] X (0, 0) Q) ∧ ((gI X 108 (Int32.toNatClampNeg x1)) = 0 → (∃ Qz_10, Ev E m_mo_areaOf 0 [(0, .ref 55), (1, .int (gI X 60 (Int32.toNatClampNeg x1)))] [] X (0, 0) Qz_10 ∧ ∀ r X_13, Qz_10 r X_13 → ∃ v_18 : Int32, r = some (.int v_18) ∧ Lay S X_13 ∧ (∃ Qz_19, Ev E m_mo_burn 0 [(0, .ref 55), (1, .int v_18)] [] X_13 (0, 0) Qz_19 ∧ ∀ r X_22, Qz_19 r X_22 → (r = none ∧ Lay S X_22 ∧ Ev E m_mo_ends 25 [(0, .ref 55), (1, .int (x1 + 1))] [] X_22 (0, 0) Q))))))))))) : Ev E m_mo_ends 25 [(0, .ref 55), (1, .int x1)] [] X (0, 0) Q := by
  refine ev_iload_n (x := x1) (pc := 25) d_mo_ends_25 rfl ?_
  refine ev_aload_n (x := 55) (pc := 26) d_mo_ends_26 rfl ?_
  refine ev_getJ (v := (gI X 55 6)) (pc := 27) d_mo_ends_27 f_mo_219 (ly_at hX 55 rfl) gg_12 rfl rfl ?_
  refine ev_icmp_ge (pc := 30) (tgt := 71) d_mo_ends_30 (by decide) (fun c_1 => ?_) (fun c_1 => ?_)
  · have h_2 := hh.1 c_1
    refine ev_aload_n (x := 55) (pc := 71) d_mo_ends_71 rfl ?_
    refine ev_dup (pc := 72) d_mo_ends_72 rfl ?_
    refine ev_getJ (v := (gI X 55 44)) (pc := 73) d_mo_ends_73 f_mo_274 (ly_at hX 55 rfl) gg_12 rfl rfl ?_
    refine ev_iconst (v := 1) (pc := 76) d_mo_ends_76 kc_i_1 ?_
    refine ev_iadd (pc := 77) d_mo_ends_77 ?_
    refine ev_putI (pc := 78) d_mo_ends_78 f_mo_274 (ly_at hX 55 rfl) gg_12 rfl (Or.inl rfl) (vp_nar_int _) rfl ?_
    refine ev_iconst (v := 0) (pc := 81) d_mo_ends_81 kc_i_0 ?_
    refine ev_istore_n (L2 := [(0, .ref 55), (1, .int 0)]) (pc := 82) d_mo_ends_82 rfl (Nat.le_of_ble_eq_true rfl) rfl ?_
    exact h_2
  · have h_3 := hh.2 c_1
    refine ev_aload_n (x := 55) (pc := 33) d_mo_ends_33 rfl ?_
    refine ev_getR (pc := 34) d_mo_ends_34 f_mo_32 (ly_at hX 55 rfl) gg_12 rfl (ly_rf hX 55 10 rfl) ?_
    refine ev_iload_n (x := x1) (pc := 37) d_mo_ends_37 rfl ?_
    refine ev_zaldJ (v := (gI X 63 (Int32.toNatClampNeg x1))) (pc := 38) d_mo_ends_38 (ly_at hX 63 rfl) h_3.1 rfl ?_
    refine ev_if_eq (pc := 39) (tgt := 65) d_mo_ends_39 (by decide) (fun c_4 => ?_) (fun c_4 => ?_)
    · have h_5 := h_3.2.1 c_4
      refine ev_iinc (v := (x1 + 1)) (L2 := [(0, .ref 55), (1, .int (x1 + 1))]) (pc := 65) d_mo_ends_65 rfl (by rw [kc_i_1]) rfl (Nat.le_of_ble_eq_true rfl) rfl ?_
      refine ev_goto (pc := 68) (tgt := 25) d_mo_ends_68 (by decide) ?_
      exact h_5
    · have h_6 := h_3.2.2 c_4
      refine ev_aload_n (x := 55) (pc := 42) d_mo_ends_42 rfl ?_
      refine ev_getR (pc := 43) d_mo_ends_43 f_mo_174 (ly_at hX 55 rfl) gg_12 rfl (ly_rf hX 55 71 rfl) ?_
      refine ev_iload_n (x := x1) (pc := 46) d_mo_ends_46 rfl ?_
      refine ev_zaldJ (v := (gI X 108 (Int32.toNatClampNeg x1))) (pc := 47) d_mo_ends_47 (ly_at hX 108 rfl) h_3.1 rfl ?_
      refine ev_if_ne (pc := 48) (tgt := 65) d_mo_ends_48 (by decide) (fun c_7 => ?_) (fun c_7 => ?_)
      · have h_8 := h_6.1 c_7
        refine ev_iinc (v := (x1 + 1)) (L2 := [(0, .ref 55), (1, .int (x1 + 1))]) (pc := 65) d_mo_ends_65 rfl (by rw [kc_i_1]) rfl (Nat.le_of_ble_eq_true rfl) rfl ?_
        refine ev_goto (pc := 68) (tgt := 25) d_mo_ends_68 (by decide) ?_
        exact h_8
      · have h_9 := h_6.2 c_7
        refine ev_aload_n (x := 55) (pc := 51) d_mo_ends_51 rfl ?_
        refine ev_aload_n (x := 55) (pc := 52) d_mo_ends_52 rfl ?_
        refine ev_aload_n (x := 55) (pc := 53) d_mo_ends_53 rfl ?_
        refine ev_getR (pc := 54) d_mo_ends_54 f_mo_23 (ly_at hX 55 rfl) gg_12 rfl (ly_rf hX 55 7 rfl) ?_
        refine ev_iload_n (x := x1) (pc := 57) d_mo_ends_57 rfl ?_
        refine ev_ialdJ (v := (gI X 60 (Int32.toNatClampNeg x1))) (pc := 58) d_mo_ends_58 (ly_at hX 60 rfl) h_3.1 rfl ?_
        obtain ⟨Qz_10, hc_11, hk_12⟩ := h_9
        refine ev_callV (z := m_mo_areaOf) (as := [.int (gI X 60 (Int32.toNatClampNeg x1))]) (rest := [.ref 55]) (pc := 59) d_mo_ends_59 (ly_at hX 55 rfl) lt13_12 rfl l_mo_234 i_mo_areaOf v_mo_areaOf o_mo_areaOf rfl rfl (Nat.le_of_ble_eq_true rfl) rfl (Nat.le_of_ble_eq_true rfl) ⟨Nat.le_of_ble_eq_true rfl, Nat.le_of_ble_eq_true rfl⟩ hc_11 (fun r_14 X_13 hq_15 => ?_)
        obtain ⟨v_18, rfl, hX_17, h_16⟩ := hk_12 _ _ hq_15
        show Ev E m_mo_ends 62 [(0, .ref 55), (1, .int x1)] [.int v_18, .ref 55] X_13 (0, 0) Q
        obtain ⟨Qz_19, hc_20, hk_21⟩ := h_16
        refine ev_callV (z := m_mo_burn) (as := [.int v_18]) (rest := []) (pc := 62) d_mo_ends_62 (ly_at hX_17 55 rfl) lt13_12 rfl l_mo_330 i_mo_burn v_mo_burn o_mo_burn rfl rfl (Nat.le_of_ble_eq_true rfl) rfl (Nat.le_of_ble_eq_true rfl) ⟨Nat.le_of_ble_eq_true rfl, Nat.le_of_ble_eq_true rfl⟩ hc_20 (fun r_23 X_22 hq_24 => ?_)
        obtain ⟨rfl, hX_26, h_25⟩ := hk_21 _ _ hq_24
        show Ev E m_mo_ends 65 [(0, .ref 55), (1, .int x1)] [] X_22 (0, 0) Q
        refine ev_iinc (v := (x1 + 1)) (L2 := [(0, .ref 55), (1, .int (x1 + 1))]) (pc := 65) d_mo_ends_65 rfl (by rw [kc_i_1]) rfl (Nat.le_of_ble_eq_true rfl) rfl ?_
        refine ev_goto (pc := 68) (tgt := 25) d_mo_ends_68 (by decide) ?_
        exact h_25
theorem b_mo_ends_83 {E : gp_E} {S : gp_S} {X : gp_H} {Q : Option Value → gp_H → Prop} {x1 : Int32} (hX : Lay S X)  (hh : (((gI X 55 33) ≤ x1 → Q none X) ∧ (¬ (gI X 55 33) ≤ x1 → (vp_in x1 30 ∧ ((¬ (gI X 84 (Int32.toNatClampNeg x1)) = (gI X 55 44) → Ev E m_mo_ends 83 [(0, .ref 55), (1, .int (x1 + 1))] [] X (0, 0) Q) ∧ ((gI X 84 (Int32.toNatClampNeg x1)) = (gI X 55 44) → (vp_in (gI X 82 (Int32.toNatClampNeg x1)) 5 ∧ ((((gI X 81 (Int32.toNatClampNeg (gI X 82 (Int32.toNatClampNeg x1)))) + (gI X 83 (Int32.toNatClampNeg x1))) ≤ 9999 → Ev E m_mo_ends 83 [(0, .ref 55), (1, .int (x1 + 1))] [] (gp_sI X 81 (Int32.toNatClampNeg (gI X 82 (Int32.toNatClampNeg x1))) ((gI X 81 (Int32.toNatClampNeg (gI X 82 (Int32.toNatClampNeg x1)))) + (gI X 83 (Int32.toNatClampNeg x1)))) (0, 0) Q) ∧ (¬ ((gI X 81 (Int32.toNatClampNeg (gI X 82 (Int32.toNatClampNeg x1)))) + (gI X 83 (Int32.toNatClampNeg x1))) ≤ 9999 → Ev E m_mo_ends 83 [(0, .ref 55), (1, .int (x1 + 1))] [] (gp_sI X 81 (Int32.toNatClampNeg (gI X 82 (Int32.toNatClampNeg x1))) 9999) (0, 0) Q))))))))) : Ev E m_mo_ends 83 [(0, .ref 55), (1, .int x1)] [] X (0, 0) Q := by
  refine ev_iload_n (x := x1) (pc := 83) d_mo_ends_83 rfl ?_
  refine ev_aload_n (x := 55) (pc := 84) d_mo_ends_84 rfl ?_
  refine ev_getJ (v := (gI X 55 33)) (pc := 85) d_mo_ends_85 f_mo_277 (ly_at hX 55 rfl) gg_12 rfl rfl ?_
  refine ev_icmp_ge (pc := 88) (tgt := 154) d_mo_ends_88 (by decide) (fun c_1 => ?_) (fun c_1 => ?_)
  · have h_2 := hh.1 c_1
    exact ev_ret (pc := 154) ⟨Nat.le_of_ble_eq_true rfl, Nat.le_of_ble_eq_true rfl⟩ d_mo_ends_154 rfl h_2
  · have h_3 := hh.2 c_1
    refine ev_aload_n (x := 55) (pc := 91) d_mo_ends_91 rfl ?_
    refine ev_getR (pc := 92) d_mo_ends_92 f_mo_99 (ly_at hX 55 rfl) gg_12 rfl (ly_rf hX 55 36 rfl) ?_
    refine ev_iload_n (x := x1) (pc := 95) d_mo_ends_95 rfl ?_
    refine ev_ialdJ (v := (gI X 84 (Int32.toNatClampNeg x1))) (pc := 96) d_mo_ends_96 (ly_at hX 84 rfl) h_3.1 rfl ?_
    refine ev_aload_n (x := 55) (pc := 97) d_mo_ends_97 rfl ?_
    refine ev_getJ (v := (gI X 55 44)) (pc := 98) d_mo_ends_98 f_mo_274 (ly_at hX 55 rfl) gg_12 rfl rfl ?_
    refine ev_icmp_ne (pc := 101) (tgt := 148) d_mo_ends_101 (by decide) (fun c_4 => ?_) (fun c_4 => ?_)
    · have h_5 := h_3.2.1 c_4
      refine ev_iinc (v := (x1 + 1)) (L2 := [(0, .ref 55), (1, .int (x1 + 1))]) (pc := 148) d_mo_ends_148 rfl (by rw [kc_i_1]) rfl (Nat.le_of_ble_eq_true rfl) rfl ?_
      refine ev_goto (pc := 151) (tgt := 83) d_mo_ends_151 (by decide) ?_
      exact h_5
    · have h_6 := h_3.2.2 c_4
      refine ev_aload_n (x := 55) (pc := 104) d_mo_ends_104 rfl ?_
      refine ev_getR (pc := 105) d_mo_ends_105 f_mo_90 (ly_at hX 55 rfl) gg_12 rfl (ly_rf hX 55 32 rfl) ?_
      refine ev_aload_n (x := 55) (pc := 108) d_mo_ends_108 rfl ?_
      refine ev_getR (pc := 109) d_mo_ends_109 f_mo_93 (ly_at hX 55 rfl) gg_12 rfl (ly_rf hX 55 34 rfl) ?_
      refine ev_iload_n (x := x1) (pc := 112) d_mo_ends_112 rfl ?_
      refine ev_ialdJ (v := (gI X 82 (Int32.toNatClampNeg x1))) (pc := 113) d_mo_ends_113 (ly_at hX 82 rfl) h_3.1 rfl ?_
      refine ev_ialdJ (v := (gI X 81 (Int32.toNatClampNeg (gI X 82 (Int32.toNatClampNeg x1))))) (pc := 114) d_mo_ends_114 (ly_at hX 81 rfl) h_6.1 rfl ?_
      refine ev_aload_n (x := 55) (pc := 115) d_mo_ends_115 rfl ?_
      refine ev_getR (pc := 116) d_mo_ends_116 f_mo_96 (ly_at hX 55 rfl) gg_12 rfl (ly_rf hX 55 35 rfl) ?_
      refine ev_iload_n (x := x1) (pc := 119) d_mo_ends_119 rfl ?_
      refine ev_ialdJ (v := (gI X 83 (Int32.toNatClampNeg x1))) (pc := 120) d_mo_ends_120 (ly_at hX 83 rfl) h_3.1 rfl ?_
      refine ev_iadd (pc := 121) d_mo_ends_121 ?_
      refine ev_istore_n (L2 := [(0, .ref 55), (1, .int x1), (2, .int ((gI X 81 (Int32.toNatClampNeg (gI X 82 (Int32.toNatClampNeg x1)))) + (gI X 83 (Int32.toNatClampNeg x1))))]) (pc := 122) d_mo_ends_122 rfl (Nat.le_of_ble_eq_true rfl) rfl ?_
      refine ev_aload_n (x := 55) (pc := 123) d_mo_ends_123 rfl ?_
      refine ev_getR (pc := 124) d_mo_ends_124 f_mo_90 (ly_at hX 55 rfl) gg_12 rfl (ly_rf hX 55 32 rfl) ?_
      refine ev_aload_n (x := 55) (pc := 127) d_mo_ends_127 rfl ?_
      refine ev_getR (pc := 128) d_mo_ends_128 f_mo_93 (ly_at hX 55 rfl) gg_12 rfl (ly_rf hX 55 34 rfl) ?_
      refine ev_iload_n (x := x1) (pc := 131) d_mo_ends_131 rfl ?_
      refine ev_ialdJ (v := (gI X 82 (Int32.toNatClampNeg x1))) (pc := 132) d_mo_ends_132 (ly_at hX 82 rfl) h_3.1 rfl ?_
      refine ev_iload_n (x := ((gI X 81 (Int32.toNatClampNeg (gI X 82 (Int32.toNatClampNeg x1)))) + (gI X 83 (Int32.toNatClampNeg x1)))) (pc := 133) d_mo_ends_133 rfl ?_
      refine ev_sipush (v := 9999) (pc := 134) d_mo_ends_134 kc_s_9999 ?_
      refine ev_icmp_le (pc := 137) (tgt := 146) d_mo_ends_137 (by decide) (fun c_7 => ?_) (fun c_7 => ?_)
      · have h_8 := h_6.2.1 c_7
        refine ev_iload_n (x := ((gI X 81 (Int32.toNatClampNeg (gI X 82 (Int32.toNatClampNeg x1)))) + (gI X 83 (Int32.toNatClampNeg x1)))) (pc := 146) d_mo_ends_146 rfl ?_
        refine ev_iast (pc := 147) d_mo_ends_147 (ly_at hX 81 rfl) h_6.1 ?_
        refine ev_iinc (v := (x1 + 1)) (L2 := [(0, .ref 55), (1, .int (x1 + 1)), (2, .int ((gI X 81 (Int32.toNatClampNeg (gI X 82 (Int32.toNatClampNeg x1)))) + (gI X 83 (Int32.toNatClampNeg x1))))]) (pc := 148) d_mo_ends_148 rfl (by rw [kc_i_1]) rfl (Nat.le_of_ble_eq_true rfl) rfl ?_
        refine ev_goto (pc := 151) (tgt := 83) d_mo_ends_151 (by decide) ?_
        exact ev_sub [(0, .ref 55), (1, .int (x1 + 1))] (List.forall_mem_cons.mpr ⟨rfl, (List.forall_mem_cons.mpr ⟨rfl, (fun _ h => nomatch h)⟩)⟩) h_8
      · have h_9 := h_6.2.2 c_7
        refine ev_sipush (v := 9999) (pc := 140) d_mo_ends_140 kc_s_9999 ?_
        refine ev_goto (pc := 143) (tgt := 147) d_mo_ends_143 (by decide) ?_
        refine ev_iast (pc := 147) d_mo_ends_147 (ly_at hX 81 rfl) h_6.1 ?_
        refine ev_iinc (v := (x1 + 1)) (L2 := [(0, .ref 55), (1, .int (x1 + 1)), (2, .int ((gI X 81 (Int32.toNatClampNeg (gI X 82 (Int32.toNatClampNeg x1)))) + (gI X 83 (Int32.toNatClampNeg x1))))]) (pc := 148) d_mo_ends_148 rfl (by rw [kc_i_1]) rfl (Nat.le_of_ble_eq_true rfl) rfl ?_
        refine ev_goto (pc := 151) (tgt := 83) d_mo_ends_151 (by decide) ?_
        exact ev_sub [(0, .ref 55), (1, .int (x1 + 1))] (List.forall_mem_cons.mpr ⟨rfl, (List.forall_mem_cons.mpr ⟨rfl, (fun _ h => nomatch h)⟩)⟩) h_9
theorem b_mo_burn_0 {E : gp_E} {S : gp_S} {X : gp_H} {Q : Option Value → gp_H → Prop} {x1 : Int32} (hX : Lay S X)  (hh : Ev E m_mo_burn 4 [(0, .ref 55), (1, .int x1), (2, .int 0), (3, .int 0)] [] X (0, 0) Q) : Ev E m_mo_burn 0 [(0, .ref 55), (1, .int x1)] [] X (0, 0) Q := by
  refine ev_iconst (v := 0) (pc := 0) d_mo_burn_0 kc_i_0 ?_
  refine ev_istore_n (L2 := [(0, .ref 55), (1, .int x1), (2, .int 0)]) (pc := 1) d_mo_burn_1 rfl (Nat.le_of_ble_eq_true rfl) rfl ?_
  refine ev_iconst (v := 0) (pc := 2) d_mo_burn_2 kc_i_0 ?_
  refine ev_istore_n (L2 := [(0, .ref 55), (1, .int x1), (2, .int 0), (3, .int 0)]) (pc := 3) d_mo_burn_3 rfl (Nat.le_of_ble_eq_true rfl) rfl ?_
  exact hh
theorem b_mo_burn_4 {E : gp_E} {S : gp_S} {X : gp_H} {Q : Option Value → gp_H → Prop} {x1 : Int32} {x2 : Int32} {x3 : Int32} (hX : Lay S X)  (hh : (((gI X 55 6) ≤ x3 → (∃ Qz_4, Ev E m_mo_useAt 0 [(0, .ref 55), (1, .int x1), (2, .int 1)] [] X (0, 0) Qz_4 ∧ ∀ r X_7, Qz_4 r X_7 → ∃ v_12 : Int32, r = some (.int v_12) ∧ Lay S X_7 ∧ Ev E m_mo_burn 103 [(0, .ref 55), (1, .int x1), (2, .int x2), (3, .int v_12), (4, .int 0), (5, .int 0)] [] X_7 (0, 0) Q)) ∧ (¬ (gI X 55 6) ≤ x3 → (vp_in x3 5 ∧ ((¬ (gI X 108 (Int32.toNatClampNeg x3)) = 0 → Ev E m_mo_burn 48 [(0, .ref 55), (1, .int x1), (2, .int x2), (3, .int x3)] [.int x3, .ref 108] X (0, 0) Q) ∧ ((gI X 108 (Int32.toNatClampNeg x3)) = 0 → (((gI X 63 (Int32.toNatClampNeg x3)) = 0 → Ev E m_mo_burn 52 [(0, .ref 55), (1, .int x1), (2, .int x2), (3, .int x3)] [.int x3, .ref 108] X (0, 0) Q) ∧ (¬ (gI X 63 (Int32.toNatClampNeg x3)) = 0 → (((gb x1 (gI X 60 (Int32.toNatClampNeg x3))) = false → Ev E m_mo_burn 52 [(0, .ref 55), (1, .int x1), (2, .int x2), (3, .int x3)] [.int x3, .ref 108] X (0, 0) Q) ∧ ((gb x1 (gI X 60 (Int32.toNatClampNeg x3))) = true → Ev E m_mo_burn 48 [(0, .ref 55), (1, .int x1), (2, .int x2), (3, .int x3)] [.int x3, .ref 108] X (0, 0) Q)))))))))) : Ev E m_mo_burn 4 [(0, .ref 55), (1, .int x1), (2, .int x2), (3, .int x3)] [] X (0, 0) Q := by
  refine ev_iload_n (x := x3) (pc := 4) d_mo_burn_4 rfl ?_
  refine ev_aload_n (x := 55) (pc := 5) d_mo_burn_5 rfl ?_
  refine ev_getJ (v := (gI X 55 6)) (pc := 6) d_mo_burn_6 f_mo_219 (ly_at hX 55 rfl) gg_12 rfl rfl ?_
  refine ev_icmp_ge (pc := 9) (tgt := 90) d_mo_burn_9 (by decide) (fun c_1 => ?_) (fun c_1 => ?_)
  · have h_2 := hh.1 c_1
    refine ev_aload_n (x := 55) (pc := 90) d_mo_burn_90 rfl ?_
    refine ev_iload_n (x := x1) (pc := 91) d_mo_burn_91 rfl ?_
    refine ev_iconst (v := 1) (pc := 92) d_mo_burn_92 kc_i_1 ?_
    obtain ⟨Qz_4, hc_5, hk_6⟩ := h_2
    refine ev_callV (z := m_mo_useAt) (as := [.int x1, .int 1]) (rest := []) (pc := 93) d_mo_burn_93 (ly_at hX 55 rfl) lt13_12 rfl l_mo_241 i_mo_useAt v_mo_useAt o_mo_useAt rfl rfl (Nat.le_of_ble_eq_true rfl) rfl (Nat.le_of_ble_eq_true rfl) ⟨Nat.le_of_ble_eq_true rfl, Nat.le_of_ble_eq_true rfl⟩ hc_5 (fun r_8 X_7 hq_9 => ?_)
    obtain ⟨v_12, rfl, hX_11, h_10⟩ := hk_6 _ _ hq_9
    show Ev E m_mo_burn 96 [(0, .ref 55), (1, .int x1), (2, .int x2), (3, .int x3)] [.int v_12] X_7 (0, 0) Q
    refine ev_istore_n (L2 := [(0, .ref 55), (1, .int x1), (2, .int x2), (3, .int v_12)]) (pc := 96) d_mo_burn_96 rfl (Nat.le_of_ble_eq_true rfl) rfl ?_
    refine ev_iconst (v := 0) (pc := 97) d_mo_burn_97 kc_i_0 ?_
    refine ev_istore (L2 := [(0, .ref 55), (1, .int x1), (2, .int x2), (3, .int v_12), (4, .int 0)]) (pc := 98) d_mo_burn_98 rfl (Nat.le_of_ble_eq_true rfl) rfl ?_
    refine ev_iconst (v := 0) (pc := 100) d_mo_burn_100 kc_i_0 ?_
    refine ev_istore (L2 := [(0, .ref 55), (1, .int x1), (2, .int x2), (3, .int v_12), (4, .int 0), (5, .int 0)]) (pc := 101) d_mo_burn_101 rfl (Nat.le_of_ble_eq_true rfl) rfl ?_
    exact h_10
  · have h_3 := hh.2 c_1
    refine ev_aload_n (x := 55) (pc := 12) d_mo_burn_12 rfl ?_
    refine ev_getR (pc := 13) d_mo_burn_13 f_mo_174 (ly_at hX 55 rfl) gg_12 rfl (ly_rf hX 55 71 rfl) ?_
    refine ev_iload_n (x := x3) (pc := 16) d_mo_burn_16 rfl ?_
    refine ev_aload_n (x := 55) (pc := 17) d_mo_burn_17 rfl ?_
    refine ev_getR (pc := 18) d_mo_burn_18 f_mo_174 (ly_at hX 55 rfl) gg_12 rfl (ly_rf hX 55 71 rfl) ?_
    refine ev_iload_n (x := x3) (pc := 21) d_mo_burn_21 rfl ?_
    refine ev_zaldJ (v := (gI X 108 (Int32.toNatClampNeg x3))) (pc := 22) d_mo_burn_22 (ly_at hX 108 rfl) h_3.1 rfl ?_
    refine ev_if_ne (pc := 23) (tgt := 48) d_mo_burn_23 (by decide) (fun c_13 => ?_) (fun c_13 => ?_)
    · have h_14 := h_3.2.1 c_13
      exact h_14
    · have h_15 := h_3.2.2 c_13
      refine ev_aload_n (x := 55) (pc := 26) d_mo_burn_26 rfl ?_
      refine ev_getR (pc := 27) d_mo_burn_27 f_mo_32 (ly_at hX 55 rfl) gg_12 rfl (ly_rf hX 55 10 rfl) ?_
      refine ev_iload_n (x := x3) (pc := 30) d_mo_burn_30 rfl ?_
      refine ev_zaldJ (v := (gI X 63 (Int32.toNatClampNeg x3))) (pc := 31) d_mo_burn_31 (ly_at hX 63 rfl) h_3.1 rfl ?_
      refine ev_if_eq (pc := 32) (tgt := 52) d_mo_burn_32 (by decide) (fun c_16 => ?_) (fun c_16 => ?_)
      · have h_17 := h_15.1 c_16
        exact h_17
      · have h_18 := h_15.2 c_16
        refine ev_iload_n (x := x1) (pc := 35) d_mo_burn_35 rfl ?_
        refine ev_aload_n (x := 55) (pc := 36) d_mo_burn_36 rfl ?_
        refine ev_getR (pc := 37) d_mo_burn_37 f_mo_23 (ly_at hX 55 rfl) gg_12 rfl (ly_rf hX 55 7 rfl) ?_
        refine ev_iload_n (x := x3) (pc := 40) d_mo_burn_40 rfl ?_
        refine ev_ialdJ (v := (gI X 60 (Int32.toNatClampNeg x3))) (pc := 41) d_mo_burn_41 (ly_at hX 60 rfl) h_3.1 rfl ?_
        refine ev_callS (z := m_mo_has) (as := [.int x1, .int (gI X 60 (Int32.toNatClampNeg x3))]) (rest := [.int x3, .ref 108]) (pc := 42) d_mo_burn_42 l_mo_222 i_mo_has o_mo_has rfl rfl (Nat.le_of_ble_eq_true rfl) rfl (Nat.le_of_ble_eq_true rfl) ⟨Nat.le_of_ble_eq_true rfl, Nat.le_of_ble_eq_true rfl⟩ (s_mo_has hX x1 (gI X 60 (Int32.toNatClampNeg x3))) (fun r X1 hq => ?_)
        obtain ⟨rfl, rfl⟩ := hq
        show Ev E m_mo_burn 45 [(0, .ref 55), (1, .int x1), (2, .int x2), (3, .int x3)] [.int (bz (gb x1 (gI X 60 (Int32.toNatClampNeg x3)))), .int x3, .ref 108] X (0, 0) Q
        refine ev_ifz_eq (pc := 45) (tgt := 52) d_mo_burn_45 (by decide) (fun c_19 => ?_) (fun c_19 => ?_)
        · have h_20 := h_18.1 c_19
          exact h_20
        · have h_21 := h_18.2 c_19
          exact h_21
theorem b_mo_burn_48 {E : gp_E} {S : gp_S} {X : gp_H} {Q : Option Value → gp_H → Prop} {x1 : Int32} {x2 : Int32} {x3 : Int32} {t0 : Int32} (hX : Lay S X)  (hh : Ev E m_mo_burn 53 [(0, .ref 55), (1, .int x1), (2, .int x2), (3, .int x3)] [.int 1, .int t0, .ref 108] X (0, 0) Q) : Ev E m_mo_burn 48 [(0, .ref 55), (1, .int x1), (2, .int x2), (3, .int x3)] [.int t0, .ref 108] X (0, 0) Q := by
  refine ev_iconst (v := 1) (pc := 48) d_mo_burn_48 kc_i_1 ?_
  refine ev_goto (pc := 49) (tgt := 53) d_mo_burn_49 (by decide) ?_
  exact hh
theorem b_mo_burn_52 {E : gp_E} {S : gp_S} {X : gp_H} {Q : Option Value → gp_H → Prop} {x1 : Int32} {x2 : Int32} {x3 : Int32} {t0 : Int32} (hX : Lay S X)  (hh : Ev E m_mo_burn 53 [(0, .ref 55), (1, .int x1), (2, .int x2), (3, .int x3)] [.int 0, .int t0, .ref 108] X (0, 0) Q) : Ev E m_mo_burn 52 [(0, .ref 55), (1, .int x1), (2, .int x2), (3, .int x3)] [.int t0, .ref 108] X (0, 0) Q := by
  refine ev_iconst (v := 0) (pc := 52) d_mo_burn_52 kc_i_0 ?_
  exact hh
theorem b_mo_burn_53 {E : gp_E} {S : gp_S} {X : gp_H} {Q : Option Value → gp_H → Prop} {x1 : Int32} {x2 : Int32} {x3 : Int32} {t0 : Int32} {t1 : Int32} (hX : Lay S X)  (hh : (vp_in t1 5 ∧ (narrow .boolean (.int t0) = .int t0 ∧ (vp_in x3 5 ∧ (((gI X 63 (Int32.toNatClampNeg x3)) = 0 → Ev E m_mo_burn 81 [(0, .ref 55), (1, .int x1), (2, .int x2), (3, .int x3)] [.int x2] (gp_sI X 108 (Int32.toNatClampNeg t1) t0) (0, 0) Q) ∧ (¬ (gI X 63 (Int32.toNatClampNeg x3)) = 0 → (((gb x1 (gI X 60 (Int32.toNatClampNeg x3))) = false → Ev E m_mo_burn 81 [(0, .ref 55), (1, .int x1), (2, .int x2), (3, .int x3)] [.int x2] (gp_sI X 108 (Int32.toNatClampNeg t1) t0) (0, 0) Q) ∧ ((gb x1 (gI X 60 (Int32.toNatClampNeg x3))) = true → Ev E m_mo_burn 4 [(0, .ref 55), (1, .int x1), (2, .int (x2 + 1)), (3, .int (x3 + 1))] [] (gp_sI X 108 (Int32.toNatClampNeg t1) t0) (0, 0) Q)))))))) : Ev E m_mo_burn 53 [(0, .ref 55), (1, .int x1), (2, .int x2), (3, .int x3)] [.int t0, .int t1, .ref 108] X (0, 0) Q := by
  refine ev_zast (pc := 53) d_mo_burn_53 (ly_at hX 108 rfl) hh.1 hh.2.1 ?_
  refine ev_iload_n (x := x2) (pc := 54) d_mo_burn_54 rfl ?_
  refine ev_aload_n (x := 55) (pc := 55) d_mo_burn_55 rfl ?_
  refine ev_getR (pc := 56) d_mo_burn_56 f_mo_32 (ly_at (ly_sI hX) 55 rfl) gg_12 rfl (ly_rf (ly_sI hX) 55 10 rfl) ?_
  refine ev_iload_n (x := x3) (pc := 59) d_mo_burn_59 rfl ?_
  refine ev_zaldJ (v := (gI X 63 (Int32.toNatClampNeg x3))) (pc := 60) d_mo_burn_60 (ly_at (ly_sI hX) 63 rfl) hh.2.2.1 rfl ?_
  refine ev_if_eq (pc := 61) (tgt := 81) d_mo_burn_61 (by decide) (fun c_1 => ?_) (fun c_1 => ?_)
  · have h_2 := hh.2.2.2.1 c_1
    exact h_2
  · have h_3 := hh.2.2.2.2 c_1
    refine ev_iload_n (x := x1) (pc := 64) d_mo_burn_64 rfl ?_
    refine ev_aload_n (x := 55) (pc := 65) d_mo_burn_65 rfl ?_
    refine ev_getR (pc := 66) d_mo_burn_66 f_mo_23 (ly_at (ly_sI hX) 55 rfl) gg_12 rfl (ly_rf (ly_sI hX) 55 7 rfl) ?_
    refine ev_iload_n (x := x3) (pc := 69) d_mo_burn_69 rfl ?_
    refine ev_ialdJ (v := (gI X 60 (Int32.toNatClampNeg x3))) (pc := 70) d_mo_burn_70 (ly_at (ly_sI hX) 60 rfl) hh.2.2.1 rfl ?_
    refine ev_callS (z := m_mo_has) (as := [.int x1, .int (gI X 60 (Int32.toNatClampNeg x3))]) (rest := [.int x2]) (pc := 71) d_mo_burn_71 l_mo_222 i_mo_has o_mo_has rfl rfl (Nat.le_of_ble_eq_true rfl) rfl (Nat.le_of_ble_eq_true rfl) ⟨Nat.le_of_ble_eq_true rfl, Nat.le_of_ble_eq_true rfl⟩ (s_mo_has (ly_sI hX) x1 (gI X 60 (Int32.toNatClampNeg x3))) (fun r X1 hq => ?_)
    obtain ⟨rfl, rfl⟩ := hq
    show Ev E m_mo_burn 74 [(0, .ref 55), (1, .int x1), (2, .int x2), (3, .int x3)] [.int (bz (gb x1 (gI X 60 (Int32.toNatClampNeg x3)))), .int x2] (gp_sI X 108 (Int32.toNatClampNeg t1) t0) (0, 0) Q
    refine ev_ifz_eq (pc := 74) (tgt := 81) d_mo_burn_74 (by decide) (fun c_4 => ?_) (fun c_4 => ?_)
    · have h_5 := h_3.1 c_4
      exact h_5
    · have h_6 := h_3.2 c_4
      refine ev_iconst (v := 1) (pc := 77) d_mo_burn_77 kc_i_1 ?_
      refine ev_goto (pc := 78) (tgt := 82) d_mo_burn_78 (by decide) ?_
      refine ev_iadd (pc := 82) d_mo_burn_82 ?_
      refine ev_istore_n (L2 := [(0, .ref 55), (1, .int x1), (2, .int (x2 + 1)), (3, .int x3)]) (pc := 83) d_mo_burn_83 rfl (Nat.le_of_ble_eq_true rfl) rfl ?_
      refine ev_iinc (v := (x3 + 1)) (L2 := [(0, .ref 55), (1, .int x1), (2, .int (x2 + 1)), (3, .int (x3 + 1))]) (pc := 84) d_mo_burn_84 rfl (by rw [kc_i_1]) rfl (Nat.le_of_ble_eq_true rfl) rfl ?_
      refine ev_goto (pc := 87) (tgt := 4) d_mo_burn_87 (by decide) ?_
      exact h_6
theorem b_mo_burn_81 {E : gp_E} {S : gp_S} {X : gp_H} {Q : Option Value → gp_H → Prop} {x1 : Int32} {x2 : Int32} {x3 : Int32} {t0 : Int32} (hX : Lay S X)  (hh : Ev E m_mo_burn 4 [(0, .ref 55), (1, .int x1), (2, .int (t0 + 0)), (3, .int (x3 + 1))] [] X (0, 0) Q) : Ev E m_mo_burn 81 [(0, .ref 55), (1, .int x1), (2, .int x2), (3, .int x3)] [.int t0] X (0, 0) Q := by
  refine ev_iconst (v := 0) (pc := 81) d_mo_burn_81 kc_i_0 ?_
  refine ev_iadd (pc := 82) d_mo_burn_82 ?_
  refine ev_istore_n (L2 := [(0, .ref 55), (1, .int x1), (2, .int (t0 + 0)), (3, .int x3)]) (pc := 83) d_mo_burn_83 rfl (Nat.le_of_ble_eq_true rfl) rfl ?_
  refine ev_iinc (v := (x3 + 1)) (L2 := [(0, .ref 55), (1, .int x1), (2, .int (t0 + 0)), (3, .int (x3 + 1))]) (pc := 84) d_mo_burn_84 rfl (by rw [kc_i_1]) rfl (Nat.le_of_ble_eq_true rfl) rfl ?_
  refine ev_goto (pc := 87) (tgt := 4) d_mo_burn_87 (by decide) ?_
  exact hh
theorem b_mo_burn_103 {E : gp_E} {S : gp_S} {X : gp_H} {Q : Option Value → gp_H → Prop} {x1 : Int32} {x2 : Int32} {x3 : Int32} {x4 : Int32} {x5 : Int32} (hX : Lay S X)  (hh : (((gI X 55 6) ≤ x5 → Q none X) ∧ (¬ (gI X 55 6) ≤ x5 → (vp_in x5 5 ∧ (((gI X 63 (Int32.toNatClampNeg x5)) = 0 → Ev E m_mo_burn 103 [(0, .ref 55), (1, .int x1), (2, .int x2), (3, .int x3), (4, .int x4), (5, .int (x5 + 1))] [] X (0, 0) Q) ∧ (¬ (gI X 63 (Int32.toNatClampNeg x5)) = 0 → (((gb x1 (gI X 60 (Int32.toNatClampNeg x5))) = false → Ev E m_mo_burn 103 [(0, .ref 55), (1, .int x1), (2, .int x2), (3, .int x3), (4, .int x4), (5, .int (x5 + 1))] [] X (0, 0) Q) ∧ ((gb x1 (gI X 60 (Int32.toNatClampNeg x5))) = true → (¬ x2 = 0 ∧ (¬ x2 = 0 ∧ (((x3 - x3 / x2 * x2) ≤ x4 → Ev E m_mo_burn 152 [(0, .ref 55), (1, .int x1), (2, .int x2), (3, .int x3), (4, .int x4), (5, .int x5)] [.int 0, .int (x3 / x2)] X (0, 0) Q) ∧ (¬ (x3 - x3 / x2 * x2) ≤ x4 → Ev E m_mo_burn 152 [(0, .ref 55), (1, .int x1), (2, .int x2), (3, .int x3), (4, .int x4), (5, .int x5)] [.int 1, .int (x3 / x2)] X (0, 0) Q)))))))))))) : Ev E m_mo_burn 103 [(0, .ref 55), (1, .int x1), (2, .int x2), (3, .int x3), (4, .int x4), (5, .int x5)] [] X (0, 0) Q := by
  refine ev_iload (x := x5) (pc := 103) d_mo_burn_103 rfl ?_
  refine ev_aload_n (x := 55) (pc := 105) d_mo_burn_105 rfl ?_
  refine ev_getJ (v := (gI X 55 6)) (pc := 106) d_mo_burn_106 f_mo_219 (ly_at hX 55 rfl) gg_12 rfl rfl ?_
  refine ev_icmp_ge (pc := 109) (tgt := 229) d_mo_burn_109 (by decide) (fun c_1 => ?_) (fun c_1 => ?_)
  · have h_2 := hh.1 c_1
    exact ev_ret (pc := 229) ⟨Nat.le_of_ble_eq_true rfl, Nat.le_of_ble_eq_true rfl⟩ d_mo_burn_229 rfl h_2
  · have h_3 := hh.2 c_1
    refine ev_aload_n (x := 55) (pc := 112) d_mo_burn_112 rfl ?_
    refine ev_getR (pc := 113) d_mo_burn_113 f_mo_32 (ly_at hX 55 rfl) gg_12 rfl (ly_rf hX 55 10 rfl) ?_
    refine ev_iload (x := x5) (pc := 116) d_mo_burn_116 rfl ?_
    refine ev_zaldJ (v := (gI X 63 (Int32.toNatClampNeg x5))) (pc := 118) d_mo_burn_118 (ly_at hX 63 rfl) h_3.1 rfl ?_
    refine ev_if_eq (pc := 119) (tgt := 223) d_mo_burn_119 (by decide) (fun c_4 => ?_) (fun c_4 => ?_)
    · have h_5 := h_3.2.1 c_4
      refine ev_iinc (v := (x5 + 1)) (L2 := [(0, .ref 55), (1, .int x1), (2, .int x2), (3, .int x3), (4, .int x4), (5, .int (x5 + 1))]) (pc := 223) d_mo_burn_223 rfl (by rw [kc_i_1]) rfl (Nat.le_of_ble_eq_true rfl) rfl ?_
      refine ev_goto (pc := 226) (tgt := 103) d_mo_burn_226 (by decide) ?_
      exact h_5
    · have h_6 := h_3.2.2 c_4
      refine ev_iload_n (x := x1) (pc := 122) d_mo_burn_122 rfl ?_
      refine ev_aload_n (x := 55) (pc := 123) d_mo_burn_123 rfl ?_
      refine ev_getR (pc := 124) d_mo_burn_124 f_mo_23 (ly_at hX 55 rfl) gg_12 rfl (ly_rf hX 55 7 rfl) ?_
      refine ev_iload (x := x5) (pc := 127) d_mo_burn_127 rfl ?_
      refine ev_ialdJ (v := (gI X 60 (Int32.toNatClampNeg x5))) (pc := 129) d_mo_burn_129 (ly_at hX 60 rfl) h_3.1 rfl ?_
      refine ev_callS (z := m_mo_has) (as := [.int x1, .int (gI X 60 (Int32.toNatClampNeg x5))]) (rest := []) (pc := 130) d_mo_burn_130 l_mo_222 i_mo_has o_mo_has rfl rfl (Nat.le_of_ble_eq_true rfl) rfl (Nat.le_of_ble_eq_true rfl) ⟨Nat.le_of_ble_eq_true rfl, Nat.le_of_ble_eq_true rfl⟩ (s_mo_has hX x1 (gI X 60 (Int32.toNatClampNeg x5))) (fun r X1 hq => ?_)
      obtain ⟨rfl, rfl⟩ := hq
      show Ev E m_mo_burn 133 [(0, .ref 55), (1, .int x1), (2, .int x2), (3, .int x3), (4, .int x4), (5, .int x5)] [.int (bz (gb x1 (gI X 60 (Int32.toNatClampNeg x5))))] X (0, 0) Q
      refine ev_ifz_eq (pc := 133) (tgt := 223) d_mo_burn_133 (by decide) (fun c_7 => ?_) (fun c_7 => ?_)
      · have h_8 := h_6.1 c_7
        refine ev_iinc (v := (x5 + 1)) (L2 := [(0, .ref 55), (1, .int x1), (2, .int x2), (3, .int x3), (4, .int x4), (5, .int (x5 + 1))]) (pc := 223) d_mo_burn_223 rfl (by rw [kc_i_1]) rfl (Nat.le_of_ble_eq_true rfl) rfl ?_
        refine ev_goto (pc := 226) (tgt := 103) d_mo_burn_226 (by decide) ?_
        exact h_8
      · have h_9 := h_6.2 c_7
        refine ev_iload_n (x := x3) (pc := 136) d_mo_burn_136 rfl ?_
        refine ev_iload_n (x := x2) (pc := 137) d_mo_burn_137 rfl ?_
        refine ev_idiv (pc := 138) d_mo_burn_138 h_9.1 ?_
        refine ev_iload (x := x4) (pc := 139) d_mo_burn_139 rfl ?_
        refine ev_iload_n (x := x3) (pc := 141) d_mo_burn_141 rfl ?_
        refine ev_iload_n (x := x2) (pc := 142) d_mo_burn_142 rfl ?_
        refine ev_irem (pc := 143) d_mo_burn_143 h_9.2.1 ?_
        refine ev_icmp_ge (pc := 144) (tgt := 151) d_mo_burn_144 (by decide) (fun c_10 => ?_) (fun c_10 => ?_)
        · have h_11 := h_9.2.2.1 c_10
          refine ev_iconst (v := 0) (pc := 151) d_mo_burn_151 kc_i_0 ?_
          exact h_11
        · have h_12 := h_9.2.2.2 c_10
          refine ev_iconst (v := 1) (pc := 147) d_mo_burn_147 kc_i_1 ?_
          refine ev_goto (pc := 148) (tgt := 152) d_mo_burn_148 (by decide) ?_
          exact h_12
theorem b_mo_burn_152 {E : gp_E} {S : gp_S} {X : gp_H} {Q : Option Value → gp_H → Prop} {x1 : Int32} {x2 : Int32} {x3 : Int32} {x4 : Int32} {x5 : Int32} {t0 : Int32} {t1 : Int32} (hX : Lay S X)  (hh : (vp_in x5 5 ∧ (((gI X 62 (Int32.toNatClampNeg x5)) < (((t1 + t0) + 9) / 10) → Ev E m_mo_burn 188 [(0, .ref 55), (1, .int x1), (2, .int x2), (3, .int x3), (4, .int x4), (5, .int x5), (6, .int (t1 + t0)), (7, .int (((t1 + t0) + 9) / 10))] [.int 0, .int x5, .ref 63] X (0, 0) Q) ∧ (¬ (gI X 62 (Int32.toNatClampNeg x5)) < (((t1 + t0) + 9) / 10) → Ev E m_mo_burn 188 [(0, .ref 55), (1, .int x1), (2, .int x2), (3, .int x3), (4, .int x4), (5, .int x5), (6, .int (t1 + t0)), (7, .int (((t1 + t0) + 9) / 10))] [.int 1, .int x5, .ref 63] X (0, 0) Q)))) : Ev E m_mo_burn 152 [(0, .ref 55), (1, .int x1), (2, .int x2), (3, .int x3), (4, .int x4), (5, .int x5)] [.int t0, .int t1] X (0, 0) Q := by
  refine ev_iadd (pc := 152) d_mo_burn_152 ?_
  refine ev_istore (L2 := [(0, .ref 55), (1, .int x1), (2, .int x2), (3, .int x3), (4, .int x4), (5, .int x5), (6, .int (t1 + t0))]) (pc := 153) d_mo_burn_153 rfl (Nat.le_of_ble_eq_true rfl) rfl ?_
  refine ev_iload (x := (t1 + t0)) (pc := 155) d_mo_burn_155 rfl ?_
  refine ev_bipush (v := 9) (pc := 157) d_mo_burn_157 kc_b_9 ?_
  refine ev_iadd (pc := 159) d_mo_burn_159 ?_
  refine ev_bipush (v := 10) (pc := 160) d_mo_burn_160 kc_b_10 ?_
  refine ev_idiv (pc := 162) d_mo_burn_162 (by decide) ?_
  refine ev_istore (L2 := [(0, .ref 55), (1, .int x1), (2, .int x2), (3, .int x3), (4, .int x4), (5, .int x5), (6, .int (t1 + t0)), (7, .int (((t1 + t0) + 9) / 10))]) (pc := 163) d_mo_burn_163 rfl (Nat.le_of_ble_eq_true rfl) rfl ?_
  refine ev_aload_n (x := 55) (pc := 165) d_mo_burn_165 rfl ?_
  refine ev_getR (pc := 166) d_mo_burn_166 f_mo_32 (ly_at hX 55 rfl) gg_12 rfl (ly_rf hX 55 10 rfl) ?_
  refine ev_iload (x := x5) (pc := 169) d_mo_burn_169 rfl ?_
  refine ev_aload_n (x := 55) (pc := 171) d_mo_burn_171 rfl ?_
  refine ev_getR (pc := 172) d_mo_burn_172 f_mo_29 (ly_at hX 55 rfl) gg_12 rfl (ly_rf hX 55 9 rfl) ?_
  refine ev_iload (x := x5) (pc := 175) d_mo_burn_175 rfl ?_
  refine ev_ialdJ (v := (gI X 62 (Int32.toNatClampNeg x5))) (pc := 177) d_mo_burn_177 (ly_at hX 62 rfl) hh.1 rfl ?_
  refine ev_iload (x := (((t1 + t0) + 9) / 10)) (pc := 178) d_mo_burn_178 rfl ?_
  refine ev_icmp_lt (pc := 180) (tgt := 187) d_mo_burn_180 (by decide) (fun c_1 => ?_) (fun c_1 => ?_)
  · have h_2 := hh.2.1 c_1
    refine ev_iconst (v := 0) (pc := 187) d_mo_burn_187 kc_i_0 ?_
    exact h_2
  · have h_3 := hh.2.2 c_1
    refine ev_iconst (v := 1) (pc := 183) d_mo_burn_183 kc_i_1 ?_
    refine ev_goto (pc := 184) (tgt := 188) d_mo_burn_184 (by decide) ?_
    exact h_3
theorem b_mo_burn_188 {E : gp_E} {S : gp_S} {X : gp_H} {Q : Option Value → gp_H → Prop} {x1 : Int32} {x2 : Int32} {x3 : Int32} {x4 : Int32} {x5 : Int32} {x6 : Int32} {x7 : Int32} {t0 : Int32} {t1 : Int32} (hX : Lay S X)  (hh : (vp_in t1 5 ∧ (narrow .boolean (.int t0) = .int t0 ∧ (vp_in x5 5 ∧ (((gI (gp_sI X 63 (Int32.toNatClampNeg t1) t0) 63 (Int32.toNatClampNeg x5)) = 0 → Ev E m_mo_burn 103 [(0, .ref 55), (1, .int x1), (2, .int x2), (3, .int x3), (4, .int (x4 + 1)), (5, .int (x5 + 1))] [] (gp_sI (gp_sI X 63 (Int32.toNatClampNeg t1) t0) 62 (Int32.toNatClampNeg x5) 0) (0, 0) Q) ∧ (¬ (gI (gp_sI X 63 (Int32.toNatClampNeg t1) t0) 63 (Int32.toNatClampNeg x5)) = 0 → Ev E m_mo_burn 103 [(0, .ref 55), (1, .int x1), (2, .int x2), (3, .int x3), (4, .int (x4 + 1)), (5, .int (x5 + 1))] [] (gp_sI (gp_sI X 63 (Int32.toNatClampNeg t1) t0) 62 (Int32.toNatClampNeg x5) ((gI X 62 (Int32.toNatClampNeg x5)) - x7)) (0, 0) Q)))))) : Ev E m_mo_burn 188 [(0, .ref 55), (1, .int x1), (2, .int x2), (3, .int x3), (4, .int x4), (5, .int x5), (6, .int x6), (7, .int x7)] [.int t0, .int t1, .ref 63] X (0, 0) Q := by
  refine ev_zast (pc := 188) d_mo_burn_188 (ly_at hX 63 rfl) hh.1 hh.2.1 ?_
  refine ev_aload_n (x := 55) (pc := 189) d_mo_burn_189 rfl ?_
  refine ev_getR (pc := 190) d_mo_burn_190 f_mo_29 (ly_at (ly_sI hX) 55 rfl) gg_12 rfl (ly_rf (ly_sI hX) 55 9 rfl) ?_
  refine ev_iload (x := x5) (pc := 193) d_mo_burn_193 rfl ?_
  refine ev_aload_n (x := 55) (pc := 195) d_mo_burn_195 rfl ?_
  refine ev_getR (pc := 196) d_mo_burn_196 f_mo_32 (ly_at (ly_sI hX) 55 rfl) gg_12 rfl (ly_rf (ly_sI hX) 55 10 rfl) ?_
  refine ev_iload (x := x5) (pc := 199) d_mo_burn_199 rfl ?_
  refine ev_zaldJ (v := (gI (gp_sI X 63 (Int32.toNatClampNeg t1) t0) 63 (Int32.toNatClampNeg x5))) (pc := 201) d_mo_burn_201 (ly_at (ly_sI hX) 63 rfl) hh.2.2.1 rfl ?_
  refine ev_if_eq (pc := 202) (tgt := 218) d_mo_burn_202 (by decide) (fun c_1 => ?_) (fun c_1 => ?_)
  · have h_2 := hh.2.2.2.1 c_1
    refine ev_iconst (v := 0) (pc := 218) d_mo_burn_218 kc_i_0 ?_
    refine ev_iast (pc := 219) d_mo_burn_219 (ly_at (ly_sI hX) 62 rfl) hh.2.2.1 ?_
    refine ev_iinc (v := (x4 + 1)) (L2 := [(0, .ref 55), (1, .int x1), (2, .int x2), (3, .int x3), (4, .int (x4 + 1)), (5, .int x5), (6, .int x6), (7, .int x7)]) (pc := 220) d_mo_burn_220 rfl (by rw [kc_i_1]) rfl (Nat.le_of_ble_eq_true rfl) rfl ?_
    refine ev_iinc (v := (x5 + 1)) (L2 := [(0, .ref 55), (1, .int x1), (2, .int x2), (3, .int x3), (4, .int (x4 + 1)), (5, .int (x5 + 1)), (6, .int x6), (7, .int x7)]) (pc := 223) d_mo_burn_223 rfl (by rw [kc_i_1]) rfl (Nat.le_of_ble_eq_true rfl) rfl ?_
    refine ev_goto (pc := 226) (tgt := 103) d_mo_burn_226 (by decide) ?_
    exact ev_sub [(0, .ref 55), (1, .int x1), (2, .int x2), (3, .int x3), (4, .int (x4 + 1)), (5, .int (x5 + 1))] (List.forall_mem_cons.mpr ⟨rfl, (List.forall_mem_cons.mpr ⟨rfl, (List.forall_mem_cons.mpr ⟨rfl, (List.forall_mem_cons.mpr ⟨rfl, (List.forall_mem_cons.mpr ⟨rfl, (List.forall_mem_cons.mpr ⟨rfl, (fun _ h => nomatch h)⟩)⟩)⟩)⟩)⟩)⟩) h_2
  · have h_3 := hh.2.2.2.2 c_1
    refine ev_aload_n (x := 55) (pc := 205) d_mo_burn_205 rfl ?_
    refine ev_getR (pc := 206) d_mo_burn_206 f_mo_29 (ly_at (ly_sI hX) 55 rfl) gg_12 rfl (ly_rf (ly_sI hX) 55 9 rfl) ?_
    refine ev_iload (x := x5) (pc := 209) d_mo_burn_209 rfl ?_
    refine ev_ialdJ (v := (gI X 62 (Int32.toNatClampNeg x5))) (pc := 211) d_mo_burn_211 (ly_at (ly_sI hX) 62 rfl) hh.2.2.1 rfl ?_
    refine ev_iload (x := x7) (pc := 212) d_mo_burn_212 rfl ?_
    refine ev_isub (pc := 214) d_mo_burn_214 ?_
    refine ev_goto (pc := 215) (tgt := 219) d_mo_burn_215 (by decide) ?_
    refine ev_iast (pc := 219) d_mo_burn_219 (ly_at (ly_sI hX) 62 rfl) hh.2.2.1 ?_
    refine ev_iinc (v := (x4 + 1)) (L2 := [(0, .ref 55), (1, .int x1), (2, .int x2), (3, .int x3), (4, .int (x4 + 1)), (5, .int x5), (6, .int x6), (7, .int x7)]) (pc := 220) d_mo_burn_220 rfl (by rw [kc_i_1]) rfl (Nat.le_of_ble_eq_true rfl) rfl ?_
    refine ev_iinc (v := (x5 + 1)) (L2 := [(0, .ref 55), (1, .int x1), (2, .int x2), (3, .int x3), (4, .int (x4 + 1)), (5, .int (x5 + 1)), (6, .int x6), (7, .int x7)]) (pc := 223) d_mo_burn_223 rfl (by rw [kc_i_1]) rfl (Nat.le_of_ble_eq_true rfl) rfl ?_
    refine ev_goto (pc := 226) (tgt := 103) d_mo_burn_226 (by decide) ?_
    exact ev_sub [(0, .ref 55), (1, .int x1), (2, .int x2), (3, .int x3), (4, .int (x4 + 1)), (5, .int (x5 + 1))] (List.forall_mem_cons.mpr ⟨rfl, (List.forall_mem_cons.mpr ⟨rfl, (List.forall_mem_cons.mpr ⟨rfl, (List.forall_mem_cons.mpr ⟨rfl, (List.forall_mem_cons.mpr ⟨rfl, (List.forall_mem_cons.mpr ⟨rfl, (fun _ h => nomatch h)⟩)⟩)⟩)⟩)⟩)⟩) h_3
theorem b_mo_week_0 {E : gp_E} {S : gp_S} {X : gp_H} {Q : Option Value → gp_H → Prop}  (hX : Lay S X)  (hh : ((¬ (gI X 55 44) = 200 → (∃ Qz_4, Ev E m_mo_ends 0 [(0, .ref 55)] [] X (0, 0) Qz_4 ∧ ∀ r X_7, Qz_4 r X_7 → (r = none ∧ Lay S X_7 ∧ Q (some (.int (gI X_7 55 44))) X_7))) ∧ ((gI X 55 44) = 200 → Q (some (.int (-3))) X))) : Ev E m_mo_week 0 [(0, .ref 55)] [] X (0, 0) Q := by
  refine ev_aload_n (x := 55) (pc := 0) d_mo_week_0 rfl ?_
  refine ev_getJ (v := (gI X 55 44)) (pc := 1) d_mo_week_1 f_mo_274 (ly_at hX 55 rfl) gg_12 rfl rfl ?_
  refine ev_sipush (v := 200) (pc := 4) d_mo_week_4 kc_s_200 ?_
  refine ev_icmp_ne (pc := 7) (tgt := 13) d_mo_week_7 (by decide) (fun c_1 => ?_) (fun c_1 => ?_)
  · have h_2 := hh.1 c_1
    refine ev_aload_n (x := 55) (pc := 13) d_mo_week_13 rfl ?_
    obtain ⟨Qz_4, hc_5, hk_6⟩ := h_2
    refine ev_callV (z := m_mo_ends) (as := []) (rest := []) (pc := 14) d_mo_week_14 (ly_at hX 55 rfl) lt13_12 rfl l_mo_327 i_mo_ends v_mo_ends o_mo_ends rfl rfl (Nat.le_of_ble_eq_true rfl) rfl (Nat.le_of_ble_eq_true rfl) ⟨Nat.le_of_ble_eq_true rfl, Nat.le_of_ble_eq_true rfl⟩ hc_5 (fun r_8 X_7 hq_9 => ?_)
    obtain ⟨rfl, hX_11, h_10⟩ := hk_6 _ _ hq_9
    show Ev E m_mo_week 17 [(0, .ref 55)] [] X_7 (0, 0) Q
    refine ev_aload_n (x := 55) (pc := 17) d_mo_week_17 rfl ?_
    refine ev_getJ (v := (gI X_7 55 44)) (pc := 18) d_mo_week_18 f_mo_274 (ly_at hX_11 55 rfl) gg_12 rfl rfl ?_
    exact ev_iret (pc := 21) ⟨Nat.le_of_ble_eq_true rfl, Nat.le_of_ble_eq_true rfl⟩ d_mo_week_21 rfl (vp_nar_int _) h_10
  · have h_3 := hh.2 c_1
    refine ev_bipush (v := (-3)) (pc := 10) d_mo_week_10 kc_b_m3 ?_
    exact ev_iret (pc := 12) ⟨Nat.le_of_ble_eq_true rfl, Nat.le_of_ble_eq_true rfl⟩ d_mo_week_12 rfl (vp_nar_int _) h_3
theorem b_mo_later_0 {E : gp_E} {S : gp_S} {X : gp_H} {Q : Option Value → gp_H → Prop} {x1 : Int32} {x2 : Int32} (hX : Lay S X)  (hh : (((iw x1 0 ((gI X 55 19) - 1)) = false → Q (some (.int (-1))) X) ∧ ((iw x1 0 ((gI X 55 19) - 1)) = true → (((iw x2 0 ((gI X 55 45) - 1)) = true → (vp_in x1 40 ∧ ((¬ (gI X 74 (Int32.toNatClampNeg x1)) = 2 → Q (some (.int (-3))) X) ∧ ((gI X 74 (Int32.toNatClampNeg x1)) = 2 → (∃ Qz_10, Ev E m_mo_done 0 [(0, .ref 55)] [] X (0, 0) Qz_10 ∧ ∀ r X_13, Qz_10 r X_13 → ∃ v_18 : Int32, r = some (.int v_18) ∧ Lay S X_13 ∧ (((gb v_18 (gI X_13 70 (Int32.toNatClampNeg x1))) = false → Q (some (.int (-3))) X_13) ∧ ((gb v_18 (gI X_13 70 (Int32.toNatClampNeg x1))) = true → (∃ Qz_22, Ev E m_mo_canFit 0 [(0, .ref 55), (1, .int x1), (2, .int x2)] [] X_13 (0, 0) Qz_22 ∧ ∀ r X_25, Qz_22 r X_25 → ∃ v_30 : Int32, r = some (.int v_30) ∧ Lay S X_25 ∧ ((¬ v_30 = 0 → (∃ Qz_34, Ev E m_mo_changes 0 [(0, .ref 55), (1, .int x1), (2, .int x2), (3, .int 5)] [] X_25 (0, 0) Qz_34 ∧ ∀ r X_37, Qz_34 r X_37 → (r = none ∧ Lay S X_37 ∧ Q (some (.int 1)) X_37))) ∧ (v_30 = 0 → Q (some (.int (-3))) X_25)))))))))) ∧ ((iw x2 0 ((gI X 55 45) - 1)) = false → Q (some (.int (-1))) X))))) : Ev E m_mo_later 0 [(0, .ref 55), (1, .int x1), (2, .int x2)] [] X (0, 0) Q := by
  refine ev_aload_n (x := 55) (pc := 0) d_mo_later_0 rfl ?_
  refine ev_iload_n (x := x1) (pc := 1) d_mo_later_1 rfl ?_
  refine ev_callV (z := m_mo_isHome) (as := [.int x1]) (rest := []) (pc := 2) d_mo_later_2 (ly_at hX 55 rfl) lt13_12 rfl l_mo_251 i_mo_isHome v_mo_isHome o_mo_isHome rfl rfl (Nat.le_of_ble_eq_true rfl) rfl (Nat.le_of_ble_eq_true rfl) ⟨Nat.le_of_ble_eq_true rfl, Nat.le_of_ble_eq_true rfl⟩ (s_mo_isHome hX x1 ) (fun r X1 hq => ?_)
  obtain ⟨rfl, rfl⟩ := hq
  show Ev E m_mo_later 5 [(0, .ref 55), (1, .int x1), (2, .int x2)] [.int (bz (iw x1 0 ((gI X 55 19) - 1)))] X (0, 0) Q
  refine ev_ifz_eq (pc := 5) (tgt := 16) d_mo_later_5 (by decide) (fun c_1 => ?_) (fun c_1 => ?_)
  · have h_2 := hh.1 c_1
    refine ev_iconst (v := (-1)) (pc := 16) d_mo_later_16 kc_i_m1 ?_
    exact ev_iret (pc := 17) ⟨Nat.le_of_ble_eq_true rfl, Nat.le_of_ble_eq_true rfl⟩ d_mo_later_17 rfl (vp_nar_int _) h_2
  · have h_3 := hh.2 c_1
    refine ev_aload_n (x := 55) (pc := 8) d_mo_later_8 rfl ?_
    refine ev_iload_n (x := x2) (pc := 9) d_mo_later_9 rfl ?_
    refine ev_callV (z := m_mo_isFitter) (as := [.int x2]) (rest := []) (pc := 10) d_mo_later_10 (ly_at hX 55 rfl) lt13_12 rfl l_mo_334 i_mo_isFitter v_mo_isFitter o_mo_isFitter rfl rfl (Nat.le_of_ble_eq_true rfl) rfl (Nat.le_of_ble_eq_true rfl) ⟨Nat.le_of_ble_eq_true rfl, Nat.le_of_ble_eq_true rfl⟩ (s_mo_isFitter hX x2 ) (fun r X1 hq => ?_)
    obtain ⟨rfl, rfl⟩ := hq
    show Ev E m_mo_later 13 [(0, .ref 55), (1, .int x1), (2, .int x2)] [.int (bz (iw x2 0 ((gI X 55 45) - 1)))] X (0, 0) Q
    refine ev_ifz_ne (pc := 13) (tgt := 18) d_mo_later_13 (by decide) (fun c_4 => ?_) (fun c_4 => ?_)
    · have h_5 := h_3.1 c_4
      refine ev_aload_n (x := 55) (pc := 18) d_mo_later_18 rfl ?_
      refine ev_getR (pc := 19) d_mo_later_19 f_mo_69 (ly_at hX 55 rfl) gg_12 rfl (ly_rf hX 55 24 rfl) ?_
      refine ev_iload_n (x := x1) (pc := 22) d_mo_later_22 rfl ?_
      refine ev_ialdJ (v := (gI X 74 (Int32.toNatClampNeg x1))) (pc := 23) d_mo_later_23 (ly_at hX 74 rfl) h_5.1 rfl ?_
      refine ev_iconst (v := 2) (pc := 24) d_mo_later_24 kc_i_2 ?_
      refine ev_icmp_ne (pc := 25) (tgt := 53) d_mo_later_25 (by decide) (fun c_7 => ?_) (fun c_7 => ?_)
      · have h_8 := h_5.2.1 c_7
        refine ev_bipush (v := (-3)) (pc := 53) d_mo_later_53 kc_b_m3 ?_
        exact ev_iret (pc := 55) ⟨Nat.le_of_ble_eq_true rfl, Nat.le_of_ble_eq_true rfl⟩ d_mo_later_55 rfl (vp_nar_int _) h_8
      · have h_9 := h_5.2.2 c_7
        refine ev_aload_n (x := 55) (pc := 28) d_mo_later_28 rfl ?_
        obtain ⟨Qz_10, hc_11, hk_12⟩ := h_9
        refine ev_callV (z := m_mo_done) (as := []) (rest := []) (pc := 29) d_mo_later_29 (ly_at hX 55 rfl) lt13_12 rfl l_mo_286 i_mo_done v_mo_done o_mo_done rfl rfl (Nat.le_of_ble_eq_true rfl) rfl (Nat.le_of_ble_eq_true rfl) ⟨Nat.le_of_ble_eq_true rfl, Nat.le_of_ble_eq_true rfl⟩ hc_11 (fun r_14 X_13 hq_15 => ?_)
        obtain ⟨v_18, rfl, hX_17, h_16⟩ := hk_12 _ _ hq_15
        show Ev E m_mo_later 32 [(0, .ref 55), (1, .int x1), (2, .int x2)] [.int v_18] X_13 (0, 0) Q
        refine ev_aload_n (x := 55) (pc := 32) d_mo_later_32 rfl ?_
        refine ev_getR (pc := 33) d_mo_later_33 f_mo_57 (ly_at hX_17 55 rfl) gg_12 rfl (ly_rf hX_17 55 20 rfl) ?_
        refine ev_iload_n (x := x1) (pc := 36) d_mo_later_36 rfl ?_
        refine ev_ialdJ (v := (gI X_13 70 (Int32.toNatClampNeg x1))) (pc := 37) d_mo_later_37 (ly_at hX_17 70 rfl) h_5.1 rfl ?_
        refine ev_callS (z := m_mo_has) (as := [.int v_18, .int (gI X_13 70 (Int32.toNatClampNeg x1))]) (rest := []) (pc := 38) d_mo_later_38 l_mo_222 i_mo_has o_mo_has rfl rfl (Nat.le_of_ble_eq_true rfl) rfl (Nat.le_of_ble_eq_true rfl) ⟨Nat.le_of_ble_eq_true rfl, Nat.le_of_ble_eq_true rfl⟩ (s_mo_has hX_17 v_18 (gI X_13 70 (Int32.toNatClampNeg x1))) (fun r X1 hq => ?_)
        obtain ⟨rfl, rfl⟩ := hq
        show Ev E m_mo_later 41 [(0, .ref 55), (1, .int x1), (2, .int x2)] [.int (bz (gb v_18 (gI X_13 70 (Int32.toNatClampNeg x1))))] X_13 (0, 0) Q
        refine ev_ifz_eq (pc := 41) (tgt := 53) d_mo_later_41 (by decide) (fun c_19 => ?_) (fun c_19 => ?_)
        · have h_20 := h_16.1 c_19
          refine ev_bipush (v := (-3)) (pc := 53) d_mo_later_53 kc_b_m3 ?_
          exact ev_iret (pc := 55) ⟨Nat.le_of_ble_eq_true rfl, Nat.le_of_ble_eq_true rfl⟩ d_mo_later_55 rfl (vp_nar_int _) h_20
        · have h_21 := h_16.2 c_19
          refine ev_aload_n (x := 55) (pc := 44) d_mo_later_44 rfl ?_
          refine ev_iload_n (x := x1) (pc := 45) d_mo_later_45 rfl ?_
          refine ev_iload_n (x := x2) (pc := 46) d_mo_later_46 rfl ?_
          obtain ⟨Qz_22, hc_23, hk_24⟩ := h_21
          refine ev_callV (z := m_mo_canFit) (as := [.int x1, .int x2]) (rest := []) (pc := 47) d_mo_later_47 (ly_at hX_17 55 rfl) lt13_12 rfl l_mo_316 i_mo_canFit v_mo_canFit o_mo_canFit rfl rfl (Nat.le_of_ble_eq_true rfl) rfl (Nat.le_of_ble_eq_true rfl) ⟨Nat.le_of_ble_eq_true rfl, Nat.le_of_ble_eq_true rfl⟩ hc_23 (fun r_26 X_25 hq_27 => ?_)
          obtain ⟨v_30, rfl, hX_29, h_28⟩ := hk_24 _ _ hq_27
          show Ev E m_mo_later 50 [(0, .ref 55), (1, .int x1), (2, .int x2)] [.int v_30] X_25 (0, 0) Q
          refine ev_if_ne (pc := 50) (tgt := 56) d_mo_later_50 (by decide) (fun c_31 => ?_) (fun c_31 => ?_)
          · have h_32 := h_28.1 c_31
            refine ev_aload_n (x := 55) (pc := 56) d_mo_later_56 rfl ?_
            refine ev_iload_n (x := x1) (pc := 57) d_mo_later_57 rfl ?_
            refine ev_iload_n (x := x2) (pc := 58) d_mo_later_58 rfl ?_
            refine ev_iconst (v := 5) (pc := 59) d_mo_later_59 kc_i_5 ?_
            obtain ⟨Qz_34, hc_35, hk_36⟩ := h_32
            refine ev_callV (z := m_mo_changes) (as := [.int x1, .int x2, .int 5]) (rest := []) (pc := 60) d_mo_later_60 (ly_at hX_29 55 rfl) lt13_12 rfl l_mo_319 i_mo_changes v_mo_changes o_mo_changes rfl rfl (Nat.le_of_ble_eq_true rfl) rfl (Nat.le_of_ble_eq_true rfl) ⟨Nat.le_of_ble_eq_true rfl, Nat.le_of_ble_eq_true rfl⟩ hc_35 (fun r_38 X_37 hq_39 => ?_)
            obtain ⟨rfl, hX_41, h_40⟩ := hk_36 _ _ hq_39
            show Ev E m_mo_later 63 [(0, .ref 55), (1, .int x1), (2, .int x2)] [] X_37 (0, 0) Q
            refine ev_iconst (v := 1) (pc := 63) d_mo_later_63 kc_i_1 ?_
            exact ev_iret (pc := 64) ⟨Nat.le_of_ble_eq_true rfl, Nat.le_of_ble_eq_true rfl⟩ d_mo_later_64 rfl (vp_nar_int _) h_40
          · have h_33 := h_28.2 c_31
            refine ev_bipush (v := (-3)) (pc := 53) d_mo_later_53 kc_b_m3 ?_
            exact ev_iret (pc := 55) ⟨Nat.le_of_ble_eq_true rfl, Nat.le_of_ble_eq_true rfl⟩ d_mo_later_55 rfl (vp_nar_int _) h_33
    · have h_6 := h_3.2 c_4
      refine ev_iconst (v := (-1)) (pc := 16) d_mo_later_16 kc_i_m1 ?_
      exact ev_iret (pc := 17) ⟨Nat.le_of_ble_eq_true rfl, Nat.le_of_ble_eq_true rfl⟩ d_mo_later_17 rfl (vp_nar_int _) h_6
theorem b_mo_danger_0 {E : gp_E} {S : gp_S} {X : gp_H} {Q : Option Value → gp_H → Prop}  (hX : Lay S X)  (hh : Ev E m_mo_danger 4 [(0, .ref 55), (1, .int 0), (2, .int 0)] [] X (0, 0) Q) : Ev E m_mo_danger 0 [(0, .ref 55)] [] X (0, 0) Q := by
  refine ev_iconst (v := 0) (pc := 0) d_mo_danger_0 kc_i_0 ?_
  refine ev_istore_n (L2 := [(0, .ref 55), (1, .int 0)]) (pc := 1) d_mo_danger_1 rfl (Nat.le_of_ble_eq_true rfl) rfl ?_
  refine ev_iconst (v := 0) (pc := 2) d_mo_danger_2 kc_i_0 ?_
  refine ev_istore_n (L2 := [(0, .ref 55), (1, .int 0), (2, .int 0)]) (pc := 3) d_mo_danger_3 rfl (Nat.le_of_ble_eq_true rfl) rfl ?_
  exact hh
theorem b_mo_danger_4 {E : gp_E} {S : gp_S} {X : gp_H} {Q : Option Value → gp_H → Prop} {x1 : Int32} {x2 : Int32} (hX : Lay S X)  (hh : (((gI X 55 19) ≤ x2 → Q (some (.int x1)) X) ∧ (¬ (gI X 55 19) ≤ x2 → (vp_in x2 40 ∧ (∃ Qz_4, Ev E m_mo_gasAt 0 [(0, .ref 55), (1, .int (gI X 70 (Int32.toNatClampNeg x2)))] [] X (0, 0) Qz_4 ∧ ∀ r X_7, Qz_4 r X_7 → ∃ v_12 : Int32, r = some (.int v_12) ∧ Lay S X_7 ∧ ((¬ (gI X_7 74 (Int32.toNatClampNeg x2)) = 0 → Ev E m_mo_danger 38 [(0, .ref 55), (1, .int x1), (2, .int x2), (3, .int v_12)] [.int x1] X_7 (0, 0) Q) ∧ ((gI X_7 74 (Int32.toNatClampNeg x2)) = 0 → ((2 ≤ v_12 → Ev E m_mo_danger 58 [(0, .ref 55), (1, .int x1), (2, .int x2), (3, .int v_12)] [.int x1] X_7 (0, 0) Q) ∧ (¬ 2 ≤ v_12 → Ev E m_mo_danger 38 [(0, .ref 55), (1, .int x1), (2, .int x2), (3, .int v_12)] [.int x1] X_7 (0, 0) Q))))))))) : Ev E m_mo_danger 4 [(0, .ref 55), (1, .int x1), (2, .int x2)] [] X (0, 0) Q := by
  refine ev_iload_n (x := x2) (pc := 4) d_mo_danger_4 rfl ?_
  refine ev_aload_n (x := 55) (pc := 5) d_mo_danger_5 rfl ?_
  refine ev_getJ (v := (gI X 55 19)) (pc := 6) d_mo_danger_6 f_mo_200 (ly_at hX 55 rfl) gg_12 rfl rfl ?_
  refine ev_icmp_ge (pc := 9) (tgt := 71) d_mo_danger_9 (by decide) (fun c_1 => ?_) (fun c_1 => ?_)
  · have h_2 := hh.1 c_1
    refine ev_iload_n (x := x1) (pc := 71) d_mo_danger_71 rfl ?_
    exact ev_iret (pc := 72) ⟨Nat.le_of_ble_eq_true rfl, Nat.le_of_ble_eq_true rfl⟩ d_mo_danger_72 rfl (vp_nar_int _) h_2
  · have h_3 := hh.2 c_1
    refine ev_aload_n (x := 55) (pc := 12) d_mo_danger_12 rfl ?_
    refine ev_aload_n (x := 55) (pc := 13) d_mo_danger_13 rfl ?_
    refine ev_getR (pc := 14) d_mo_danger_14 f_mo_57 (ly_at hX 55 rfl) gg_12 rfl (ly_rf hX 55 20 rfl) ?_
    refine ev_iload_n (x := x2) (pc := 17) d_mo_danger_17 rfl ?_
    refine ev_ialdJ (v := (gI X 70 (Int32.toNatClampNeg x2))) (pc := 18) d_mo_danger_18 (ly_at hX 70 rfl) h_3.1 rfl ?_
    obtain ⟨Qz_4, hc_5, hk_6⟩ := h_3.2
    refine ev_callV (z := m_mo_gasAt) (as := [.int (gI X 70 (Int32.toNatClampNeg x2))]) (rest := []) (pc := 19) d_mo_danger_19 (ly_at hX 55 rfl) lt13_12 rfl l_mo_245 i_mo_gasAt v_mo_gasAt o_mo_gasAt rfl rfl (Nat.le_of_ble_eq_true rfl) rfl (Nat.le_of_ble_eq_true rfl) ⟨Nat.le_of_ble_eq_true rfl, Nat.le_of_ble_eq_true rfl⟩ hc_5 (fun r_8 X_7 hq_9 => ?_)
    obtain ⟨v_12, rfl, hX_11, h_10⟩ := hk_6 _ _ hq_9
    show Ev E m_mo_danger 22 [(0, .ref 55), (1, .int x1), (2, .int x2)] [.int v_12] X_7 (0, 0) Q
    refine ev_istore_n (L2 := [(0, .ref 55), (1, .int x1), (2, .int x2), (3, .int v_12)]) (pc := 22) d_mo_danger_22 rfl (Nat.le_of_ble_eq_true rfl) rfl ?_
    refine ev_iload_n (x := x1) (pc := 23) d_mo_danger_23 rfl ?_
    refine ev_aload_n (x := 55) (pc := 24) d_mo_danger_24 rfl ?_
    refine ev_getR (pc := 25) d_mo_danger_25 f_mo_69 (ly_at hX_11 55 rfl) gg_12 rfl (ly_rf hX_11 55 24 rfl) ?_
    refine ev_iload_n (x := x2) (pc := 28) d_mo_danger_28 rfl ?_
    refine ev_ialdJ (v := (gI X_7 74 (Int32.toNatClampNeg x2))) (pc := 29) d_mo_danger_29 (ly_at hX_11 74 rfl) h_3.1 rfl ?_
    refine ev_if_ne (pc := 30) (tgt := 38) d_mo_danger_30 (by decide) (fun c_13 => ?_) (fun c_13 => ?_)
    · have h_14 := h_10.1 c_13
      exact h_14
    · have h_15 := h_10.2 c_13
      refine ev_iload_n (x := v_12) (pc := 33) d_mo_danger_33 rfl ?_
      refine ev_iconst (v := 2) (pc := 34) d_mo_danger_34 kc_i_2 ?_
      refine ev_icmp_ge (pc := 35) (tgt := 58) d_mo_danger_35 (by decide) (fun c_16 => ?_) (fun c_16 => ?_)
      · have h_17 := h_15.1 c_16
        exact h_17
      · have h_18 := h_15.2 c_16
        exact h_18
theorem b_mo_danger_38 {E : gp_E} {S : gp_S} {X : gp_H} {Q : Option Value → gp_H → Prop} {x1 : Int32} {x2 : Int32} {x3 : Int32} {t0 : Int32} (hX : Lay S X)  (hh : (vp_in x2 40 ∧ ((¬ (gI X 74 (Int32.toNatClampNeg x2)) = 1 → Ev E m_mo_danger 62 [(0, .ref 55), (1, .int x1), (2, .int x2), (3, .int x3)] [.int t0] X (0, 0) Q) ∧ ((gI X 74 (Int32.toNatClampNeg x2)) = 1 → ((x3 = 1 → Ev E m_mo_danger 58 [(0, .ref 55), (1, .int x1), (2, .int x2), (3, .int x3)] [.int t0] X (0, 0) Q) ∧ (¬ x3 = 1 → ((¬ x3 = 3 → Ev E m_mo_danger 62 [(0, .ref 55), (1, .int x1), (2, .int x2), (3, .int x3)] [.int t0] X (0, 0) Q) ∧ (x3 = 3 → Ev E m_mo_danger 58 [(0, .ref 55), (1, .int x1), (2, .int x2), (3, .int x3)] [.int t0] X (0, 0) Q)))))))) : Ev E m_mo_danger 38 [(0, .ref 55), (1, .int x1), (2, .int x2), (3, .int x3)] [.int t0] X (0, 0) Q := by
  refine ev_aload_n (x := 55) (pc := 38) d_mo_danger_38 rfl ?_
  refine ev_getR (pc := 39) d_mo_danger_39 f_mo_69 (ly_at hX 55 rfl) gg_12 rfl (ly_rf hX 55 24 rfl) ?_
  refine ev_iload_n (x := x2) (pc := 42) d_mo_danger_42 rfl ?_
  refine ev_ialdJ (v := (gI X 74 (Int32.toNatClampNeg x2))) (pc := 43) d_mo_danger_43 (ly_at hX 74 rfl) hh.1 rfl ?_
  refine ev_iconst (v := 1) (pc := 44) d_mo_danger_44 kc_i_1 ?_
  refine ev_icmp_ne (pc := 45) (tgt := 62) d_mo_danger_45 (by decide) (fun c_1 => ?_) (fun c_1 => ?_)
  · have h_2 := hh.2.1 c_1
    exact h_2
  · have h_3 := hh.2.2 c_1
    refine ev_iload_n (x := x3) (pc := 48) d_mo_danger_48 rfl ?_
    refine ev_iconst (v := 1) (pc := 49) d_mo_danger_49 kc_i_1 ?_
    refine ev_icmp_eq (pc := 50) (tgt := 58) d_mo_danger_50 (by decide) (fun c_4 => ?_) (fun c_4 => ?_)
    · have h_5 := h_3.1 c_4
      exact h_5
    · have h_6 := h_3.2 c_4
      refine ev_iload_n (x := x3) (pc := 53) d_mo_danger_53 rfl ?_
      refine ev_iconst (v := 3) (pc := 54) d_mo_danger_54 kc_i_3 ?_
      refine ev_icmp_ne (pc := 55) (tgt := 62) d_mo_danger_55 (by decide) (fun c_7 => ?_) (fun c_7 => ?_)
      · have h_8 := h_6.1 c_7
        exact h_8
      · have h_9 := h_6.2 c_7
        exact h_9
theorem b_mo_danger_58 {E : gp_E} {S : gp_S} {X : gp_H} {Q : Option Value → gp_H → Prop} {x1 : Int32} {x2 : Int32} {x3 : Int32} {t0 : Int32} (hX : Lay S X)  (hh : Ev E m_mo_danger 4 [(0, .ref 55), (1, .int (t0 + 1)), (2, .int (x2 + 1))] [] X (0, 0) Q) : Ev E m_mo_danger 58 [(0, .ref 55), (1, .int x1), (2, .int x2), (3, .int x3)] [.int t0] X (0, 0) Q := by
  refine ev_iconst (v := 1) (pc := 58) d_mo_danger_58 kc_i_1 ?_
  refine ev_goto (pc := 59) (tgt := 63) d_mo_danger_59 (by decide) ?_
  refine ev_iadd (pc := 63) d_mo_danger_63 ?_
  refine ev_istore_n (L2 := [(0, .ref 55), (1, .int (t0 + 1)), (2, .int x2), (3, .int x3)]) (pc := 64) d_mo_danger_64 rfl (Nat.le_of_ble_eq_true rfl) rfl ?_
  refine ev_iinc (v := (x2 + 1)) (L2 := [(0, .ref 55), (1, .int (t0 + 1)), (2, .int (x2 + 1)), (3, .int x3)]) (pc := 65) d_mo_danger_65 rfl (by rw [kc_i_1]) rfl (Nat.le_of_ble_eq_true rfl) rfl ?_
  refine ev_goto (pc := 68) (tgt := 4) d_mo_danger_68 (by decide) ?_
  exact ev_sub [(0, .ref 55), (1, .int (t0 + 1)), (2, .int (x2 + 1))] (List.forall_mem_cons.mpr ⟨rfl, (List.forall_mem_cons.mpr ⟨rfl, (List.forall_mem_cons.mpr ⟨rfl, (fun _ h => nomatch h)⟩)⟩)⟩) hh
theorem b_mo_danger_62 {E : gp_E} {S : gp_S} {X : gp_H} {Q : Option Value → gp_H → Prop} {x1 : Int32} {x2 : Int32} {x3 : Int32} {t0 : Int32} (hX : Lay S X)  (hh : Ev E m_mo_danger 4 [(0, .ref 55), (1, .int (t0 + 0)), (2, .int (x2 + 1))] [] X (0, 0) Q) : Ev E m_mo_danger 62 [(0, .ref 55), (1, .int x1), (2, .int x2), (3, .int x3)] [.int t0] X (0, 0) Q := by
  refine ev_iconst (v := 0) (pc := 62) d_mo_danger_62 kc_i_0 ?_
  refine ev_iadd (pc := 63) d_mo_danger_63 ?_
  refine ev_istore_n (L2 := [(0, .ref 55), (1, .int (t0 + 0)), (2, .int x2), (3, .int x3)]) (pc := 64) d_mo_danger_64 rfl (Nat.le_of_ble_eq_true rfl) rfl ?_
  refine ev_iinc (v := (x2 + 1)) (L2 := [(0, .ref 55), (1, .int (t0 + 0)), (2, .int (x2 + 1)), (3, .int x3)]) (pc := 65) d_mo_danger_65 rfl (by rw [kc_i_1]) rfl (Nat.le_of_ble_eq_true rfl) rfl ?_
  refine ev_goto (pc := 68) (tgt := 4) d_mo_danger_68 (by decide) ?_
  exact ev_sub [(0, .ref 55), (1, .int (t0 + 0)), (2, .int (x2 + 1))] (List.forall_mem_cons.mpr ⟨rfl, (List.forall_mem_cons.mpr ⟨rfl, (List.forall_mem_cons.mpr ⟨rfl, (fun _ h => nomatch h)⟩)⟩)⟩) hh
theorem b_mo_smell_0 {E : gp_E} {S : gp_S} {X : gp_H} {Q : Option Value → gp_H → Prop} {x1 : Int32} {x2 : Int32} (hX : Lay S X)  (hh : (((iw x1 0 ((gI X 55 19) - 1)) = true → ((¬ (gI X 55 50) = 0 → (vp_in ((gI X 55 50) - 1) 30 ∧ Ev E m_mo_smell 33 [(0, .ref 55), (1, .int x1), (2, .int x2)] [.int (gI X 94 (Int32.toNatClampNeg ((gI X 55 50) - 1))), .int x2] X (0, 0) Q)) ∧ ((gI X 55 50) = 0 → Ev E m_mo_smell 33 [(0, .ref 55), (1, .int x1), (2, .int x2)] [.int 0, .int x2] X (0, 0) Q))) ∧ ((iw x1 0 ((gI X 55 19) - 1)) = false → Q (some (.int (-1))) X))) : Ev E m_mo_smell 0 [(0, .ref 55), (1, .int x1), (2, .int x2)] [] X (0, 0) Q := by
  refine ev_aload_n (x := 55) (pc := 0) d_mo_smell_0 rfl ?_
  refine ev_iload_n (x := x1) (pc := 1) d_mo_smell_1 rfl ?_
  refine ev_callV (z := m_mo_isHome) (as := [.int x1]) (rest := []) (pc := 2) d_mo_smell_2 (ly_at hX 55 rfl) lt13_12 rfl l_mo_251 i_mo_isHome v_mo_isHome o_mo_isHome rfl rfl (Nat.le_of_ble_eq_true rfl) rfl (Nat.le_of_ble_eq_true rfl) ⟨Nat.le_of_ble_eq_true rfl, Nat.le_of_ble_eq_true rfl⟩ (s_mo_isHome hX x1 ) (fun r X1 hq => ?_)
  obtain ⟨rfl, rfl⟩ := hq
  show Ev E m_mo_smell 5 [(0, .ref 55), (1, .int x1), (2, .int x2)] [.int (bz (iw x1 0 ((gI X 55 19) - 1)))] X (0, 0) Q
  refine ev_ifz_ne (pc := 5) (tgt := 10) d_mo_smell_5 (by decide) (fun c_1 => ?_) (fun c_1 => ?_)
  · have h_2 := hh.1 c_1
    refine ev_iload_n (x := x2) (pc := 10) d_mo_smell_10 rfl ?_
    refine ev_aload_n (x := 55) (pc := 11) d_mo_smell_11 rfl ?_
    refine ev_getJ (v := (gI X 55 50)) (pc := 12) d_mo_smell_12 f_mo_337 (ly_at hX 55 rfl) gg_12 rfl rfl ?_
    refine ev_if_ne (pc := 15) (tgt := 22) d_mo_smell_15 (by decide) (fun c_4 => ?_) (fun c_4 => ?_)
    · have h_5 := h_2.1 c_4
      refine ev_aload_n (x := 55) (pc := 22) d_mo_smell_22 rfl ?_
      refine ev_getR (pc := 23) d_mo_smell_23 f_mo_129 (ly_at hX 55 rfl) gg_12 rfl (ly_rf hX 55 52 rfl) ?_
      refine ev_aload_n (x := 55) (pc := 26) d_mo_smell_26 rfl ?_
      refine ev_getJ (v := (gI X 55 50)) (pc := 27) d_mo_smell_27 f_mo_337 (ly_at hX 55 rfl) gg_12 rfl rfl ?_
      refine ev_iconst (v := 1) (pc := 30) d_mo_smell_30 kc_i_1 ?_
      refine ev_isub (pc := 31) d_mo_smell_31 ?_
      refine ev_ialdJ (v := (gI X 94 (Int32.toNatClampNeg ((gI X 55 50) - 1)))) (pc := 32) d_mo_smell_32 (ly_at hX 94 rfl) h_5.1 rfl ?_
      exact h_5.2
    · have h_6 := h_2.2 c_4
      refine ev_iconst (v := 0) (pc := 18) d_mo_smell_18 kc_i_0 ?_
      refine ev_goto (pc := 19) (tgt := 33) d_mo_smell_19 (by decide) ?_
      exact h_6
  · have h_3 := hh.2 c_1
    refine ev_iconst (v := (-1)) (pc := 8) d_mo_smell_8 kc_i_m1 ?_
    exact ev_iret (pc := 9) ⟨Nat.le_of_ble_eq_true rfl, Nat.le_of_ble_eq_true rfl⟩ d_mo_smell_9 rfl (vp_nar_int _) h_3
theorem b_mo_smell_33 {E : gp_E} {S : gp_S} {X : gp_H} {Q : Option Value → gp_H → Prop} {x1 : Int32} {x2 : Int32} {t0 : Int32} {t1 : Int32} (hX : Lay S X)  (hh : (((iw t1 t0 9999) = true → ((¬ (gI X 55 50) = 30 → Ev E m_mo_smell 65 [(0, .ref 55), (1, .int x1), (2, .int x2), (3, .int (-1)), (4, .int (-1)), (5, .int 0)] [] X (0, 0) Q) ∧ ((gI X 55 50) = 30 → Q (some (.int (-4))) X))) ∧ ((iw t1 t0 9999) = false → Q (some (.int (-2))) X))) : Ev E m_mo_smell 33 [(0, .ref 55), (1, .int x1), (2, .int x2)] [.int t0, .int t1] X (0, 0) Q := by
  refine ev_sipush (v := 9999) (pc := 33) d_mo_smell_33 kc_s_9999 ?_
  refine ev_callS (z := m_mo_in) (as := [.int t1, .int t0, .int 9999]) (rest := []) (pc := 36) d_mo_smell_36 l_mo_196 i_mo_in o_mo_in rfl rfl (Nat.le_of_ble_eq_true rfl) rfl (Nat.le_of_ble_eq_true rfl) ⟨Nat.le_of_ble_eq_true rfl, Nat.le_of_ble_eq_true rfl⟩ (s_mo_in hX t1 t0 9999) (fun r X1 hq => ?_)
  obtain ⟨rfl, rfl⟩ := hq
  show Ev E m_mo_smell 39 [(0, .ref 55), (1, .int x1), (2, .int x2)] [.int (bz (iw t1 t0 9999))] X (0, 0) Q
  refine ev_ifz_ne (pc := 39) (tgt := 45) d_mo_smell_39 (by decide) (fun c_1 => ?_) (fun c_1 => ?_)
  · have h_2 := hh.1 c_1
    refine ev_aload_n (x := 55) (pc := 45) d_mo_smell_45 rfl ?_
    refine ev_getJ (v := (gI X 55 50)) (pc := 46) d_mo_smell_46 f_mo_337 (ly_at hX 55 rfl) gg_12 rfl rfl ?_
    refine ev_bipush (v := 30) (pc := 49) d_mo_smell_49 kc_b_30 ?_
    refine ev_icmp_ne (pc := 51) (tgt := 57) d_mo_smell_51 (by decide) (fun c_4 => ?_) (fun c_4 => ?_)
    · have h_5 := h_2.1 c_4
      refine ev_iconst (v := (-1)) (pc := 57) d_mo_smell_57 kc_i_m1 ?_
      refine ev_istore_n (L2 := [(0, .ref 55), (1, .int x1), (2, .int x2), (3, .int (-1))]) (pc := 58) d_mo_smell_58 rfl (Nat.le_of_ble_eq_true rfl) rfl ?_
      refine ev_iconst (v := (-1)) (pc := 59) d_mo_smell_59 kc_i_m1 ?_
      refine ev_istore (L2 := [(0, .ref 55), (1, .int x1), (2, .int x2), (3, .int (-1)), (4, .int (-1))]) (pc := 60) d_mo_smell_60 rfl (Nat.le_of_ble_eq_true rfl) rfl ?_
      refine ev_iconst (v := 0) (pc := 62) d_mo_smell_62 kc_i_0 ?_
      refine ev_istore (L2 := [(0, .ref 55), (1, .int x1), (2, .int x2), (3, .int (-1)), (4, .int (-1)), (5, .int 0)]) (pc := 63) d_mo_smell_63 rfl (Nat.le_of_ble_eq_true rfl) rfl ?_
      exact h_5
    · have h_6 := h_2.2 c_4
      refine ev_bipush (v := (-4)) (pc := 54) d_mo_smell_54 kc_b_m4 ?_
      exact ev_iret (pc := 56) ⟨Nat.le_of_ble_eq_true rfl, Nat.le_of_ble_eq_true rfl⟩ d_mo_smell_56 rfl (vp_nar_int _) h_6
  · have h_3 := hh.2 c_1
    refine ev_bipush (v := (-2)) (pc := 42) d_mo_smell_42 kc_b_m2 ?_
    exact ev_iret (pc := 44) ⟨Nat.le_of_ble_eq_true rfl, Nat.le_of_ble_eq_true rfl⟩ d_mo_smell_44 rfl (vp_nar_int _) h_3
theorem b_mo_smell_65 {E : gp_E} {S : gp_S} {X : gp_H} {Q : Option Value → gp_H → Prop} {x1 : Int32} {x2 : Int32} {x3 : Int32} {x4 : Int32} {x5 : Int32} (hX : Lay S X)  (hh : (((gI X 55 45) ≤ x5 → (vp_in (gI X 55 50) 30 ∧ ((x3 = (-1) → Ev E m_mo_smell 222 [(0, .ref 55), (1, .int x1), (2, .int x2), (3, .int x3), (4, .int x4), (5, .int x5)] [] (gp_sI (gp_sI (gp_sI (gp_sI X 93 (Int32.toNatClampNeg (gI X 55 50)) x1) 94 (Int32.toNatClampNeg (gI X 55 50)) x2) 95 (Int32.toNatClampNeg (gI X 55 50)) x3) 96 (Int32.toNatClampNeg (gI X 55 50)) x4) (0, 0) Q) ∧ (¬ x3 = (-1) → (vp_in x3 8 ∧ (vp_in x1 40 ∧ Ev E m_mo_smell 222 [(0, .ref 55), (1, .int x1), (2, .int x2), (3, .int x3), (4, .int x4), (5, .int x5)] [] (gp_sI (gp_sI (gp_sI (gp_sI (gp_sI (gp_sI X 93 (Int32.toNatClampNeg (gI X 55 50)) x1) 94 (Int32.toNatClampNeg (gI X 55 50)) x2) 95 (Int32.toNatClampNeg (gI X 55 50)) x3) 96 (Int32.toNatClampNeg (gI X 55 50)) x4) 92 (Int32.toNatClampNeg x3) (x4 + 15)) 91 (Int32.toNatClampNeg x3) (gI X 70 (Int32.toNatClampNeg x1))) (0, 0) Q)))))) ∧ (¬ (gI X 55 45) ≤ x5 → (vp_in x5 8 ∧ (vp_in x1 40 ∧ (∃ Qz_7, Ev E m_mo_far 0 [(0, .ref 55), (1, .int (gI X 91 (Int32.toNatClampNeg x5))), (2, .int (gI X 70 (Int32.toNatClampNeg x1)))] [] X (0, 0) Qz_7 ∧ ∀ r X_10, Qz_7 r X_10 → ∃ v_15 : Int32, r = some (.int v_15) ∧ Lay S X_10 ∧ (((gI X_10 92 (Int32.toNatClampNeg x5)) ≤ x2 → Ev E m_mo_smell 115 [(0, .ref 55), (1, .int x1), (2, .int x2), (3, .int x3), (4, .int x4), (5, .int x5), (6, .int v_15)] [.int x2] X_10 (0, 0) Q) ∧ (¬ (gI X_10 92 (Int32.toNatClampNeg x5)) ≤ x2 → Ev E m_mo_smell 115 [(0, .ref 55), (1, .int x1), (2, .int x2), (3, .int x3), (4, .int x4), (5, .int x5), (6, .int v_15)] [.int (gI X_10 92 (Int32.toNatClampNeg x5))] X_10 (0, 0) Q)))))))) : Ev E m_mo_smell 65 [(0, .ref 55), (1, .int x1), (2, .int x2), (3, .int x3), (4, .int x4), (5, .int x5)] [] X (0, 0) Q := by
  refine ev_iload (x := x5) (pc := 65) d_mo_smell_65 rfl ?_
  refine ev_aload_n (x := 55) (pc := 67) d_mo_smell_67 rfl ?_
  refine ev_getJ (v := (gI X 55 45)) (pc := 68) d_mo_smell_68 f_mo_209 (ly_at hX 55 rfl) gg_12 rfl rfl ?_
  refine ev_icmp_ge (pc := 71) (tgt := 153) d_mo_smell_71 (by decide) (fun c_1 => ?_) (fun c_1 => ?_)
  · have h_2 := hh.1 c_1
    refine ev_aload_n (x := 55) (pc := 153) d_mo_smell_153 rfl ?_
    refine ev_getR (pc := 154) d_mo_smell_154 f_mo_126 (ly_at hX 55 rfl) gg_12 rfl (ly_rf hX 55 51 rfl) ?_
    refine ev_aload_n (x := 55) (pc := 157) d_mo_smell_157 rfl ?_
    refine ev_getJ (v := (gI X 55 50)) (pc := 158) d_mo_smell_158 f_mo_337 (ly_at hX 55 rfl) gg_12 rfl rfl ?_
    refine ev_iload_n (x := x1) (pc := 161) d_mo_smell_161 rfl ?_
    refine ev_iast (pc := 162) d_mo_smell_162 (ly_at hX 93 rfl) h_2.1 ?_
    refine ev_aload_n (x := 55) (pc := 163) d_mo_smell_163 rfl ?_
    refine ev_getR (pc := 164) d_mo_smell_164 f_mo_129 (ly_at (ly_sI hX) 55 rfl) gg_12 rfl (ly_rf (ly_sI hX) 55 52 rfl) ?_
    refine ev_aload_n (x := 55) (pc := 167) d_mo_smell_167 rfl ?_
    refine ev_getJ (v := (gI X 55 50)) (pc := 168) d_mo_smell_168 f_mo_337 (ly_at (ly_sI hX) 55 rfl) gg_12 rfl rfl ?_
    refine ev_iload_n (x := x2) (pc := 171) d_mo_smell_171 rfl ?_
    refine ev_iast (pc := 172) d_mo_smell_172 (ly_at (ly_sI hX) 94 rfl) h_2.1 ?_
    refine ev_aload_n (x := 55) (pc := 173) d_mo_smell_173 rfl ?_
    refine ev_getR (pc := 174) d_mo_smell_174 f_mo_132 (ly_at (ly_sI (ly_sI hX)) 55 rfl) gg_12 rfl (ly_rf (ly_sI (ly_sI hX)) 55 53 rfl) ?_
    refine ev_aload_n (x := 55) (pc := 177) d_mo_smell_177 rfl ?_
    refine ev_getJ (v := (gI X 55 50)) (pc := 178) d_mo_smell_178 f_mo_337 (ly_at (ly_sI (ly_sI hX)) 55 rfl) gg_12 rfl rfl ?_
    refine ev_iload_n (x := x3) (pc := 181) d_mo_smell_181 rfl ?_
    refine ev_iast (pc := 182) d_mo_smell_182 (ly_at (ly_sI (ly_sI hX)) 95 rfl) h_2.1 ?_
    refine ev_aload_n (x := 55) (pc := 183) d_mo_smell_183 rfl ?_
    refine ev_getR (pc := 184) d_mo_smell_184 f_mo_135 (ly_at (ly_sI (ly_sI (ly_sI hX))) 55 rfl) gg_12 rfl (ly_rf (ly_sI (ly_sI (ly_sI hX))) 55 54 rfl) ?_
    refine ev_aload_n (x := 55) (pc := 187) d_mo_smell_187 rfl ?_
    refine ev_getJ (v := (gI X 55 50)) (pc := 188) d_mo_smell_188 f_mo_337 (ly_at (ly_sI (ly_sI (ly_sI hX))) 55 rfl) gg_12 rfl rfl ?_
    refine ev_iload (x := x4) (pc := 191) d_mo_smell_191 rfl ?_
    refine ev_iast (pc := 193) d_mo_smell_193 (ly_at (ly_sI (ly_sI (ly_sI hX))) 96 rfl) h_2.1 ?_
    refine ev_iload_n (x := x3) (pc := 194) d_mo_smell_194 rfl ?_
    refine ev_iconst (v := (-1)) (pc := 195) d_mo_smell_195 kc_i_m1 ?_
    refine ev_icmp_eq (pc := 196) (tgt := 222) d_mo_smell_196 (by decide) (fun c_4 => ?_) (fun c_4 => ?_)
    · have h_5 := h_2.2.1 c_4
      exact h_5
    · have h_6 := h_2.2.2 c_4
      refine ev_aload_n (x := 55) (pc := 199) d_mo_smell_199 rfl ?_
      refine ev_getR (pc := 200) d_mo_smell_200 f_mo_123 (ly_at (ly_sI (ly_sI (ly_sI (ly_sI hX)))) 55 rfl) gg_12 rfl (ly_rf (ly_sI (ly_sI (ly_sI (ly_sI hX)))) 55 49 rfl) ?_
      refine ev_iload_n (x := x3) (pc := 203) d_mo_smell_203 rfl ?_
      refine ev_iload (x := x4) (pc := 204) d_mo_smell_204 rfl ?_
      refine ev_bipush (v := 15) (pc := 206) d_mo_smell_206 kc_b_15 ?_
      refine ev_iadd (pc := 208) d_mo_smell_208 ?_
      refine ev_iast (pc := 209) d_mo_smell_209 (ly_at (ly_sI (ly_sI (ly_sI (ly_sI hX)))) 92 rfl) h_6.1 ?_
      refine ev_aload_n (x := 55) (pc := 210) d_mo_smell_210 rfl ?_
      refine ev_getR (pc := 211) d_mo_smell_211 f_mo_120 (ly_at (ly_sI (ly_sI (ly_sI (ly_sI (ly_sI hX))))) 55 rfl) gg_12 rfl (ly_rf (ly_sI (ly_sI (ly_sI (ly_sI (ly_sI hX))))) 55 48 rfl) ?_
      refine ev_iload_n (x := x3) (pc := 214) d_mo_smell_214 rfl ?_
      refine ev_aload_n (x := 55) (pc := 215) d_mo_smell_215 rfl ?_
      refine ev_getR (pc := 216) d_mo_smell_216 f_mo_57 (ly_at (ly_sI (ly_sI (ly_sI (ly_sI (ly_sI hX))))) 55 rfl) gg_12 rfl (ly_rf (ly_sI (ly_sI (ly_sI (ly_sI (ly_sI hX))))) 55 20 rfl) ?_
      refine ev_iload_n (x := x1) (pc := 219) d_mo_smell_219 rfl ?_
      refine ev_ialdJ (v := (gI X 70 (Int32.toNatClampNeg x1))) (pc := 220) d_mo_smell_220 (ly_at (ly_sI (ly_sI (ly_sI (ly_sI (ly_sI hX))))) 70 rfl) h_6.2.1 rfl ?_
      refine ev_iast (pc := 221) d_mo_smell_221 (ly_at (ly_sI (ly_sI (ly_sI (ly_sI (ly_sI hX))))) 91 rfl) h_6.1 ?_
      exact h_6.2.2
  · have h_3 := hh.2 c_1
    refine ev_aload_n (x := 55) (pc := 74) d_mo_smell_74 rfl ?_
    refine ev_aload_n (x := 55) (pc := 75) d_mo_smell_75 rfl ?_
    refine ev_getR (pc := 76) d_mo_smell_76 f_mo_120 (ly_at hX 55 rfl) gg_12 rfl (ly_rf hX 55 48 rfl) ?_
    refine ev_iload (x := x5) (pc := 79) d_mo_smell_79 rfl ?_
    refine ev_ialdJ (v := (gI X 91 (Int32.toNatClampNeg x5))) (pc := 81) d_mo_smell_81 (ly_at hX 91 rfl) h_3.1 rfl ?_
    refine ev_aload_n (x := 55) (pc := 82) d_mo_smell_82 rfl ?_
    refine ev_getR (pc := 83) d_mo_smell_83 f_mo_57 (ly_at hX 55 rfl) gg_12 rfl (ly_rf hX 55 20 rfl) ?_
    refine ev_iload_n (x := x1) (pc := 86) d_mo_smell_86 rfl ?_
    refine ev_ialdJ (v := (gI X 70 (Int32.toNatClampNeg x1))) (pc := 87) d_mo_smell_87 (ly_at hX 70 rfl) h_3.2.1 rfl ?_
    obtain ⟨Qz_7, hc_8, hk_9⟩ := h_3.2.2
    refine ev_callV (z := m_mo_far) (as := [.int (gI X 91 (Int32.toNatClampNeg x5)), .int (gI X 70 (Int32.toNatClampNeg x1))]) (rest := []) (pc := 88) d_mo_smell_88 (ly_at hX 55 rfl) lt13_12 rfl l_mo_340 i_mo_far v_mo_far o_mo_far rfl rfl (Nat.le_of_ble_eq_true rfl) rfl (Nat.le_of_ble_eq_true rfl) ⟨Nat.le_of_ble_eq_true rfl, Nat.le_of_ble_eq_true rfl⟩ hc_8 (fun r_11 X_10 hq_12 => ?_)
    obtain ⟨v_15, rfl, hX_14, h_13⟩ := hk_9 _ _ hq_12
    show Ev E m_mo_smell 91 [(0, .ref 55), (1, .int x1), (2, .int x2), (3, .int x3), (4, .int x4), (5, .int x5)] [.int v_15] X_10 (0, 0) Q
    refine ev_istore (L2 := [(0, .ref 55), (1, .int x1), (2, .int x2), (3, .int x3), (4, .int x4), (5, .int x5), (6, .int v_15)]) (pc := 91) d_mo_smell_91 rfl (Nat.le_of_ble_eq_true rfl) rfl ?_
    refine ev_aload_n (x := 55) (pc := 93) d_mo_smell_93 rfl ?_
    refine ev_getR (pc := 94) d_mo_smell_94 f_mo_123 (ly_at hX_14 55 rfl) gg_12 rfl (ly_rf hX_14 55 49 rfl) ?_
    refine ev_iload (x := x5) (pc := 97) d_mo_smell_97 rfl ?_
    refine ev_ialdJ (v := (gI X_10 92 (Int32.toNatClampNeg x5))) (pc := 99) d_mo_smell_99 (ly_at hX_14 92 rfl) h_3.1 rfl ?_
    refine ev_iload_n (x := x2) (pc := 100) d_mo_smell_100 rfl ?_
    refine ev_icmp_le (pc := 101) (tgt := 114) d_mo_smell_101 (by decide) (fun c_16 => ?_) (fun c_16 => ?_)
    · have h_17 := h_13.1 c_16
      refine ev_iload_n (x := x2) (pc := 114) d_mo_smell_114 rfl ?_
      exact h_17
    · have h_18 := h_13.2 c_16
      refine ev_aload_n (x := 55) (pc := 104) d_mo_smell_104 rfl ?_
      refine ev_getR (pc := 105) d_mo_smell_105 f_mo_123 (ly_at hX_14 55 rfl) gg_12 rfl (ly_rf hX_14 55 49 rfl) ?_
      refine ev_iload (x := x5) (pc := 108) d_mo_smell_108 rfl ?_
      refine ev_ialdJ (v := (gI X_10 92 (Int32.toNatClampNeg x5))) (pc := 110) d_mo_smell_110 (ly_at hX_14 92 rfl) h_3.1 rfl ?_
      refine ev_goto (pc := 111) (tgt := 115) d_mo_smell_111 (by decide) ?_
      exact h_18
theorem b_mo_smell_115 {E : gp_E} {S : gp_S} {X : gp_H} {Q : Option Value → gp_H → Prop} {x1 : Int32} {x2 : Int32} {x3 : Int32} {x4 : Int32} {x5 : Int32} {x6 : Int32} {t0 : Int32} (hX : Lay S X)  (hh : ((x6 = (-1) → Ev E m_mo_smell 65 [(0, .ref 55), (1, .int x1), (2, .int x2), (3, .int x3), (4, .int x4), (5, .int (x5 + 1))] [] X (0, 0) Q) ∧ (¬ x6 = (-1) → ((x3 = (-1) → Ev E m_mo_smell 140 [(0, .ref 55), (1, .int x1), (2, .int x2), (3, .int x3), (4, .int x4), (5, .int x5), (6, .int x6), (7, .int (t0 + (4 * x6)))] [] X (0, 0) Q) ∧ (¬ x3 = (-1) → ((x4 ≤ (t0 + (4 * x6)) → Ev E m_mo_smell 65 [(0, .ref 55), (1, .int x1), (2, .int x2), (3, .int x3), (4, .int x4), (5, .int (x5 + 1))] [] X (0, 0) Q) ∧ (¬ x4 ≤ (t0 + (4 * x6)) → Ev E m_mo_smell 140 [(0, .ref 55), (1, .int x1), (2, .int x2), (3, .int x3), (4, .int x4), (5, .int x5), (6, .int x6), (7, .int (t0 + (4 * x6)))] [] X (0, 0) Q))))))) : Ev E m_mo_smell 115 [(0, .ref 55), (1, .int x1), (2, .int x2), (3, .int x3), (4, .int x4), (5, .int x5), (6, .int x6)] [.int t0] X (0, 0) Q := by
  refine ev_iconst (v := 4) (pc := 115) d_mo_smell_115 kc_i_4 ?_
  refine ev_iload (x := x6) (pc := 116) d_mo_smell_116 rfl ?_
  refine ev_imul (pc := 118) d_mo_smell_118 ?_
  refine ev_iadd (pc := 119) d_mo_smell_119 ?_
  refine ev_istore (L2 := [(0, .ref 55), (1, .int x1), (2, .int x2), (3, .int x3), (4, .int x4), (5, .int x5), (6, .int x6), (7, .int (t0 + (4 * x6)))]) (pc := 120) d_mo_smell_120 rfl (Nat.le_of_ble_eq_true rfl) rfl ?_
  refine ev_iload (x := x6) (pc := 122) d_mo_smell_122 rfl ?_
  refine ev_iconst (v := (-1)) (pc := 124) d_mo_smell_124 kc_i_m1 ?_
  refine ev_icmp_eq (pc := 125) (tgt := 147) d_mo_smell_125 (by decide) (fun c_1 => ?_) (fun c_1 => ?_)
  · have h_2 := hh.1 c_1
    refine ev_iinc (v := (x5 + 1)) (L2 := [(0, .ref 55), (1, .int x1), (2, .int x2), (3, .int x3), (4, .int x4), (5, .int (x5 + 1)), (6, .int x6), (7, .int (t0 + (4 * x6)))]) (pc := 147) d_mo_smell_147 rfl (by rw [kc_i_1]) rfl (Nat.le_of_ble_eq_true rfl) rfl ?_
    refine ev_goto (pc := 150) (tgt := 65) d_mo_smell_150 (by decide) ?_
    exact ev_sub [(0, .ref 55), (1, .int x1), (2, .int x2), (3, .int x3), (4, .int x4), (5, .int (x5 + 1))] (List.forall_mem_cons.mpr ⟨rfl, (List.forall_mem_cons.mpr ⟨rfl, (List.forall_mem_cons.mpr ⟨rfl, (List.forall_mem_cons.mpr ⟨rfl, (List.forall_mem_cons.mpr ⟨rfl, (List.forall_mem_cons.mpr ⟨rfl, (fun _ h => nomatch h)⟩)⟩)⟩)⟩)⟩)⟩) h_2
  · have h_3 := hh.2 c_1
    refine ev_iload_n (x := x3) (pc := 128) d_mo_smell_128 rfl ?_
    refine ev_iconst (v := (-1)) (pc := 129) d_mo_smell_129 kc_i_m1 ?_
    refine ev_icmp_eq (pc := 130) (tgt := 140) d_mo_smell_130 (by decide) (fun c_4 => ?_) (fun c_4 => ?_)
    · have h_5 := h_3.1 c_4
      exact h_5
    · have h_6 := h_3.2 c_4
      refine ev_iload (x := (t0 + (4 * x6))) (pc := 133) d_mo_smell_133 rfl ?_
      refine ev_iload (x := x4) (pc := 135) d_mo_smell_135 rfl ?_
      refine ev_icmp_ge (pc := 137) (tgt := 147) d_mo_smell_137 (by decide) (fun c_7 => ?_) (fun c_7 => ?_)
      · have h_8 := h_6.1 c_7
        refine ev_iinc (v := (x5 + 1)) (L2 := [(0, .ref 55), (1, .int x1), (2, .int x2), (3, .int x3), (4, .int x4), (5, .int (x5 + 1)), (6, .int x6), (7, .int (t0 + (4 * x6)))]) (pc := 147) d_mo_smell_147 rfl (by rw [kc_i_1]) rfl (Nat.le_of_ble_eq_true rfl) rfl ?_
        refine ev_goto (pc := 150) (tgt := 65) d_mo_smell_150 (by decide) ?_
        exact ev_sub [(0, .ref 55), (1, .int x1), (2, .int x2), (3, .int x3), (4, .int x4), (5, .int (x5 + 1))] (List.forall_mem_cons.mpr ⟨rfl, (List.forall_mem_cons.mpr ⟨rfl, (List.forall_mem_cons.mpr ⟨rfl, (List.forall_mem_cons.mpr ⟨rfl, (List.forall_mem_cons.mpr ⟨rfl, (List.forall_mem_cons.mpr ⟨rfl, (fun _ h => nomatch h)⟩)⟩)⟩)⟩)⟩)⟩) h_8
      · have h_9 := h_6.2 c_7
        exact h_9
theorem b_mo_smell_140 {E : gp_E} {S : gp_S} {X : gp_H} {Q : Option Value → gp_H → Prop} {x1 : Int32} {x2 : Int32} {x3 : Int32} {x4 : Int32} {x5 : Int32} {x6 : Int32} {x7 : Int32} (hX : Lay S X)  (hh : Ev E m_mo_smell 65 [(0, .ref 55), (1, .int x1), (2, .int x2), (3, .int x5), (4, .int x7), (5, .int (x5 + 1))] [] X (0, 0) Q) : Ev E m_mo_smell 140 [(0, .ref 55), (1, .int x1), (2, .int x2), (3, .int x3), (4, .int x4), (5, .int x5), (6, .int x6), (7, .int x7)] [] X (0, 0) Q := by
  refine ev_iload (x := x5) (pc := 140) d_mo_smell_140 rfl ?_
  refine ev_istore_n (L2 := [(0, .ref 55), (1, .int x1), (2, .int x2), (3, .int x5), (4, .int x4), (5, .int x5), (6, .int x6), (7, .int x7)]) (pc := 142) d_mo_smell_142 rfl (Nat.le_of_ble_eq_true rfl) rfl ?_
  refine ev_iload (x := x7) (pc := 143) d_mo_smell_143 rfl ?_
  refine ev_istore (L2 := [(0, .ref 55), (1, .int x1), (2, .int x2), (3, .int x5), (4, .int x7), (5, .int x5), (6, .int x6), (7, .int x7)]) (pc := 145) d_mo_smell_145 rfl (Nat.le_of_ble_eq_true rfl) rfl ?_
  refine ev_iinc (v := (x5 + 1)) (L2 := [(0, .ref 55), (1, .int x1), (2, .int x2), (3, .int x5), (4, .int x7), (5, .int (x5 + 1)), (6, .int x6), (7, .int x7)]) (pc := 147) d_mo_smell_147 rfl (by rw [kc_i_1]) rfl (Nat.le_of_ble_eq_true rfl) rfl ?_
  refine ev_goto (pc := 150) (tgt := 65) d_mo_smell_150 (by decide) ?_
  exact ev_sub [(0, .ref 55), (1, .int x1), (2, .int x2), (3, .int x5), (4, .int x7), (5, .int (x5 + 1))] (List.forall_mem_cons.mpr ⟨rfl, (List.forall_mem_cons.mpr ⟨rfl, (List.forall_mem_cons.mpr ⟨rfl, (List.forall_mem_cons.mpr ⟨rfl, (List.forall_mem_cons.mpr ⟨rfl, (List.forall_mem_cons.mpr ⟨rfl, (fun _ h => nomatch h)⟩)⟩)⟩)⟩)⟩)⟩) hh
theorem b_mo_smell_222 {E : gp_E} {S : gp_S} {X : gp_H} {Q : Option Value → gp_H → Prop} {x1 : Int32} {x2 : Int32} {x3 : Int32} {x4 : Int32} {x5 : Int32} (hX : Lay S X)  (hh : Q (some (.int (((gI X 55 50) + 1) - 1))) (gp_sI X 55 50 ((gI X 55 50) + 1))) : Ev E m_mo_smell 222 [(0, .ref 55), (1, .int x1), (2, .int x2), (3, .int x3), (4, .int x4), (5, .int x5)] [] X (0, 0) Q := by
  refine ev_aload_n (x := 55) (pc := 222) d_mo_smell_222 rfl ?_
  refine ev_dup (pc := 223) d_mo_smell_223 rfl ?_
  refine ev_getJ (v := (gI X 55 50)) (pc := 224) d_mo_smell_224 f_mo_337 (ly_at hX 55 rfl) gg_12 rfl rfl ?_
  refine ev_iconst (v := 1) (pc := 227) d_mo_smell_227 kc_i_1 ?_
  refine ev_iadd (pc := 228) d_mo_smell_228 ?_
  refine ev_putI (pc := 229) d_mo_smell_229 f_mo_337 (ly_at hX 55 rfl) gg_12 rfl (Or.inl rfl) (vp_nar_int _) rfl ?_
  refine ev_aload_n (x := 55) (pc := 232) d_mo_smell_232 rfl ?_
  refine ev_getJ (v := ((gI X 55 50) + 1)) (pc := 233) d_mo_smell_233 f_mo_337 (ly_at (ly_sI hX) 55 rfl) gg_12 rfl rfl ?_
  refine ev_iconst (v := 1) (pc := 236) d_mo_smell_236 kc_i_1 ?_
  refine ev_isub (pc := 237) d_mo_smell_237 ?_
  exact ev_iret (pc := 238) ⟨Nat.le_of_ble_eq_true rfl, Nat.le_of_ble_eq_true rfl⟩ d_mo_smell_238 rfl (vp_nar_int _) hh
theorem b_mo_far_0 {E : gp_E} {S : gp_S} {X : gp_H} {Q : Option Value → gp_H → Prop} {x1 : Int32} {x2 : Int32} (hX : Lay S X)  (hh : Ev E m_mo_far 7 [(0, .ref 55), (1, .int x1), (2, .int x2), (3, .int ((1 : Int32) <<< (x1 &&& 31))), (4, .int 0)] [] X (0, 0) Q) : Ev E m_mo_far 0 [(0, .ref 55), (1, .int x1), (2, .int x2)] [] X (0, 0) Q := by
  refine ev_iconst (v := 1) (pc := 0) d_mo_far_0 kc_i_1 ?_
  refine ev_iload_n (x := x1) (pc := 1) d_mo_far_1 rfl ?_
  refine ev_ishl (pc := 2) d_mo_far_2 ?_
  refine ev_istore_n (L2 := [(0, .ref 55), (1, .int x1), (2, .int x2), (3, .int ((1 : Int32) <<< (x1 &&& 31)))]) (pc := 3) d_mo_far_3 rfl (Nat.le_of_ble_eq_true rfl) rfl ?_
  refine ev_iconst (v := 0) (pc := 4) d_mo_far_4 kc_i_0 ?_
  refine ev_istore (L2 := [(0, .ref 55), (1, .int x1), (2, .int x2), (3, .int ((1 : Int32) <<< (x1 &&& 31))), (4, .int 0)]) (pc := 5) d_mo_far_5 rfl (Nat.le_of_ble_eq_true rfl) rfl ?_
  exact hh
theorem b_mo_far_7 {E : gp_E} {S : gp_S} {X : gp_H} {Q : Option Value → gp_H → Prop} {x1 : Int32} {x2 : Int32} {x3 : Int32} {x4 : Int32} (hX : Lay S X)  (hh : ((12 ≤ x4 → Q (some (.int (-1))) X) ∧ (¬ 12 ≤ x4 → (((gb x3 x2) = false → Ev E m_mo_far 31 [(0, .ref 55), (1, .int x1), (2, .int x2), (3, .int x3), (4, .int x4), (5, .int x3), (6, .int 0)] [] X (0, 0) Q) ∧ ((gb x3 x2) = true → Q (some (.int x4)) X))))) : Ev E m_mo_far 7 [(0, .ref 55), (1, .int x1), (2, .int x2), (3, .int x3), (4, .int x4)] [] X (0, 0) Q := by
  refine ev_iload (x := x4) (pc := 7) d_mo_far_7 rfl ?_
  refine ev_bipush (v := 12) (pc := 9) d_mo_far_9 kc_b_12 ?_
  refine ev_icmp_ge (pc := 11) (tgt := 111) d_mo_far_11 (by decide) (fun c_1 => ?_) (fun c_1 => ?_)
  · have h_2 := hh.1 c_1
    refine ev_iconst (v := (-1)) (pc := 111) d_mo_far_111 kc_i_m1 ?_
    exact ev_iret (pc := 112) ⟨Nat.le_of_ble_eq_true rfl, Nat.le_of_ble_eq_true rfl⟩ d_mo_far_112 rfl (vp_nar_int _) h_2
  · have h_3 := hh.2 c_1
    refine ev_iload_n (x := x3) (pc := 14) d_mo_far_14 rfl ?_
    refine ev_iload_n (x := x2) (pc := 15) d_mo_far_15 rfl ?_
    refine ev_callS (z := m_mo_has) (as := [.int x3, .int x2]) (rest := []) (pc := 16) d_mo_far_16 l_mo_222 i_mo_has o_mo_has rfl rfl (Nat.le_of_ble_eq_true rfl) rfl (Nat.le_of_ble_eq_true rfl) ⟨Nat.le_of_ble_eq_true rfl, Nat.le_of_ble_eq_true rfl⟩ (s_mo_has hX x3 x2) (fun r X1 hq => ?_)
    obtain ⟨rfl, rfl⟩ := hq
    show Ev E m_mo_far 19 [(0, .ref 55), (1, .int x1), (2, .int x2), (3, .int x3), (4, .int x4)] [.int (bz (gb x3 x2))] X (0, 0) Q
    refine ev_ifz_eq (pc := 19) (tgt := 25) d_mo_far_19 (by decide) (fun c_4 => ?_) (fun c_4 => ?_)
    · have h_5 := h_3.1 c_4
      refine ev_iload_n (x := x3) (pc := 25) d_mo_far_25 rfl ?_
      refine ev_istore (L2 := [(0, .ref 55), (1, .int x1), (2, .int x2), (3, .int x3), (4, .int x4), (5, .int x3)]) (pc := 26) d_mo_far_26 rfl (Nat.le_of_ble_eq_true rfl) rfl ?_
      refine ev_iconst (v := 0) (pc := 28) d_mo_far_28 kc_i_0 ?_
      refine ev_istore (L2 := [(0, .ref 55), (1, .int x1), (2, .int x2), (3, .int x3), (4, .int x4), (5, .int x3), (6, .int 0)]) (pc := 29) d_mo_far_29 rfl (Nat.le_of_ble_eq_true rfl) rfl ?_
      exact h_5
    · have h_6 := h_3.2 c_4
      refine ev_iload (x := x4) (pc := 22) d_mo_far_22 rfl ?_
      exact ev_iret (pc := 24) ⟨Nat.le_of_ble_eq_true rfl, Nat.le_of_ble_eq_true rfl⟩ d_mo_far_24 rfl (vp_nar_int _) h_6
theorem b_mo_far_31 {E : gp_E} {S : gp_S} {X : gp_H} {Q : Option Value → gp_H → Prop} {x1 : Int32} {x2 : Int32} {x3 : Int32} {x4 : Int32} {x5 : Int32} {x6 : Int32} (hX : Lay S X)  (hh : (((gI X 55 1) ≤ x6 → Ev E m_mo_far 7 [(0, .ref 55), (1, .int x1), (2, .int x2), (3, .int x5), (4, .int (x4 + 1))] [] X (0, 0) Q) ∧ (¬ (gI X 55 1) ≤ x6 → (vp_in x6 20 ∧ (((gb x3 (gI X 56 (Int32.toNatClampNeg x6))) = true → Ev E m_mo_far 70 [(0, .ref 55), (1, .int x1), (2, .int x2), (3, .int x3), (4, .int x4), (5, .int x5), (6, .int x6)] [.int x5] X (0, 0) Q) ∧ ((gb x3 (gI X 56 (Int32.toNatClampNeg x6))) = false → (((gb x3 (gI X 57 (Int32.toNatClampNeg x6))) = false → Ev E m_mo_far 31 [(0, .ref 55), (1, .int x1), (2, .int x2), (3, .int x3), (4, .int x4), (5, .int (x5 ||| 0)), (6, .int (x6 + 1))] [] X (0, 0) Q) ∧ ((gb x3 (gI X 57 (Int32.toNatClampNeg x6))) = true → Ev E m_mo_far 70 [(0, .ref 55), (1, .int x1), (2, .int x2), (3, .int x3), (4, .int x4), (5, .int x5), (6, .int x6)] [.int x5] X (0, 0) Q)))))))) : Ev E m_mo_far 31 [(0, .ref 55), (1, .int x1), (2, .int x2), (3, .int x3), (4, .int x4), (5, .int x5), (6, .int x6)] [] X (0, 0) Q := by
  refine ev_iload (x := x6) (pc := 31) d_mo_far_31 rfl ?_
  refine ev_aload_n (x := 55) (pc := 33) d_mo_far_33 rfl ?_
  refine ev_getJ (v := (gI X 55 1)) (pc := 34) d_mo_far_34 f_mo_216 (ly_at hX 55 rfl) gg_12 rfl rfl ?_
  refine ev_icmp_ge (pc := 37) (tgt := 102) d_mo_far_37 (by decide) (fun c_1 => ?_) (fun c_1 => ?_)
  · have h_2 := hh.1 c_1
    refine ev_iload (x := x5) (pc := 102) d_mo_far_102 rfl ?_
    refine ev_istore_n (L2 := [(0, .ref 55), (1, .int x1), (2, .int x2), (3, .int x5), (4, .int x4), (5, .int x5), (6, .int x6)]) (pc := 104) d_mo_far_104 rfl (Nat.le_of_ble_eq_true rfl) rfl ?_
    refine ev_iinc (v := (x4 + 1)) (L2 := [(0, .ref 55), (1, .int x1), (2, .int x2), (3, .int x5), (4, .int (x4 + 1)), (5, .int x5), (6, .int x6)]) (pc := 105) d_mo_far_105 rfl (by rw [kc_i_1]) rfl (Nat.le_of_ble_eq_true rfl) rfl ?_
    refine ev_goto (pc := 108) (tgt := 7) d_mo_far_108 (by decide) ?_
    exact ev_sub [(0, .ref 55), (1, .int x1), (2, .int x2), (3, .int x5), (4, .int (x4 + 1))] (List.forall_mem_cons.mpr ⟨rfl, (List.forall_mem_cons.mpr ⟨rfl, (List.forall_mem_cons.mpr ⟨rfl, (List.forall_mem_cons.mpr ⟨rfl, (List.forall_mem_cons.mpr ⟨rfl, (fun _ h => nomatch h)⟩)⟩)⟩)⟩)⟩) h_2
  · have h_3 := hh.2 c_1
    refine ev_iload (x := x5) (pc := 40) d_mo_far_40 rfl ?_
    refine ev_iload_n (x := x3) (pc := 42) d_mo_far_42 rfl ?_
    refine ev_aload_n (x := 55) (pc := 43) d_mo_far_43 rfl ?_
    refine ev_getR (pc := 44) d_mo_far_44 f_mo_7 (ly_at hX 55 rfl) gg_12 rfl (ly_rf hX 55 2 rfl) ?_
    refine ev_iload (x := x6) (pc := 47) d_mo_far_47 rfl ?_
    refine ev_ialdJ (v := (gI X 56 (Int32.toNatClampNeg x6))) (pc := 49) d_mo_far_49 (ly_at hX 56 rfl) h_3.1 rfl ?_
    refine ev_callS (z := m_mo_has) (as := [.int x3, .int (gI X 56 (Int32.toNatClampNeg x6))]) (rest := [.int x5]) (pc := 50) d_mo_far_50 l_mo_222 i_mo_has o_mo_has rfl rfl (Nat.le_of_ble_eq_true rfl) rfl (Nat.le_of_ble_eq_true rfl) ⟨Nat.le_of_ble_eq_true rfl, Nat.le_of_ble_eq_true rfl⟩ (s_mo_has hX x3 (gI X 56 (Int32.toNatClampNeg x6))) (fun r X1 hq => ?_)
    obtain ⟨rfl, rfl⟩ := hq
    show Ev E m_mo_far 53 [(0, .ref 55), (1, .int x1), (2, .int x2), (3, .int x3), (4, .int x4), (5, .int x5), (6, .int x6)] [.int (bz (gb x3 (gI X 56 (Int32.toNatClampNeg x6)))), .int x5] X (0, 0) Q
    refine ev_ifz_ne (pc := 53) (tgt := 70) d_mo_far_53 (by decide) (fun c_4 => ?_) (fun c_4 => ?_)
    · have h_5 := h_3.2.1 c_4
      exact h_5
    · have h_6 := h_3.2.2 c_4
      refine ev_iload_n (x := x3) (pc := 56) d_mo_far_56 rfl ?_
      refine ev_aload_n (x := 55) (pc := 57) d_mo_far_57 rfl ?_
      refine ev_getR (pc := 58) d_mo_far_58 f_mo_13 (ly_at hX 55 rfl) gg_12 rfl (ly_rf hX 55 3 rfl) ?_
      refine ev_iload (x := x6) (pc := 61) d_mo_far_61 rfl ?_
      refine ev_ialdJ (v := (gI X 57 (Int32.toNatClampNeg x6))) (pc := 63) d_mo_far_63 (ly_at hX 57 rfl) h_3.1 rfl ?_
      refine ev_callS (z := m_mo_has) (as := [.int x3, .int (gI X 57 (Int32.toNatClampNeg x6))]) (rest := [.int x5]) (pc := 64) d_mo_far_64 l_mo_222 i_mo_has o_mo_has rfl rfl (Nat.le_of_ble_eq_true rfl) rfl (Nat.le_of_ble_eq_true rfl) ⟨Nat.le_of_ble_eq_true rfl, Nat.le_of_ble_eq_true rfl⟩ (s_mo_has hX x3 (gI X 57 (Int32.toNatClampNeg x6))) (fun r X1 hq => ?_)
      obtain ⟨rfl, rfl⟩ := hq
      show Ev E m_mo_far 67 [(0, .ref 55), (1, .int x1), (2, .int x2), (3, .int x3), (4, .int x4), (5, .int x5), (6, .int x6)] [.int (bz (gb x3 (gI X 57 (Int32.toNatClampNeg x6)))), .int x5] X (0, 0) Q
      refine ev_ifz_eq (pc := 67) (tgt := 92) d_mo_far_67 (by decide) (fun c_7 => ?_) (fun c_7 => ?_)
      · have h_8 := h_6.1 c_7
        refine ev_iconst (v := 0) (pc := 92) d_mo_far_92 kc_i_0 ?_
        refine ev_ior (pc := 93) d_mo_far_93 ?_
        refine ev_istore (L2 := [(0, .ref 55), (1, .int x1), (2, .int x2), (3, .int x3), (4, .int x4), (5, .int (x5 ||| 0)), (6, .int x6)]) (pc := 94) d_mo_far_94 rfl (Nat.le_of_ble_eq_true rfl) rfl ?_
        refine ev_iinc (v := (x6 + 1)) (L2 := [(0, .ref 55), (1, .int x1), (2, .int x2), (3, .int x3), (4, .int x4), (5, .int (x5 ||| 0)), (6, .int (x6 + 1))]) (pc := 96) d_mo_far_96 rfl (by rw [kc_i_1]) rfl (Nat.le_of_ble_eq_true rfl) rfl ?_
        refine ev_goto (pc := 99) (tgt := 31) d_mo_far_99 (by decide) ?_
        exact h_8
      · have h_9 := h_6.2 c_7
        exact h_9
theorem b_mo_far_70 {E : gp_E} {S : gp_S} {X : gp_H} {Q : Option Value → gp_H → Prop} {x1 : Int32} {x2 : Int32} {x3 : Int32} {x4 : Int32} {x5 : Int32} {x6 : Int32} {t0 : Int32} (hX : Lay S X)  (hh : (vp_in x6 20 ∧ Ev E m_mo_far 31 [(0, .ref 55), (1, .int x1), (2, .int x2), (3, .int x3), (4, .int x4), (5, .int (t0 ||| (((1 : Int32) <<< ((gI X 56 (Int32.toNatClampNeg x6)) &&& 31)) ||| ((1 : Int32) <<< ((gI X 57 (Int32.toNatClampNeg x6)) &&& 31))))), (6, .int (x6 + 1))] [] X (0, 0) Q)) : Ev E m_mo_far 70 [(0, .ref 55), (1, .int x1), (2, .int x2), (3, .int x3), (4, .int x4), (5, .int x5), (6, .int x6)] [.int t0] X (0, 0) Q := by
  refine ev_iconst (v := 1) (pc := 70) d_mo_far_70 kc_i_1 ?_
  refine ev_aload_n (x := 55) (pc := 71) d_mo_far_71 rfl ?_
  refine ev_getR (pc := 72) d_mo_far_72 f_mo_7 (ly_at hX 55 rfl) gg_12 rfl (ly_rf hX 55 2 rfl) ?_
  refine ev_iload (x := x6) (pc := 75) d_mo_far_75 rfl ?_
  refine ev_ialdJ (v := (gI X 56 (Int32.toNatClampNeg x6))) (pc := 77) d_mo_far_77 (ly_at hX 56 rfl) hh.1 rfl ?_
  refine ev_ishl (pc := 78) d_mo_far_78 ?_
  refine ev_iconst (v := 1) (pc := 79) d_mo_far_79 kc_i_1 ?_
  refine ev_aload_n (x := 55) (pc := 80) d_mo_far_80 rfl ?_
  refine ev_getR (pc := 81) d_mo_far_81 f_mo_13 (ly_at hX 55 rfl) gg_12 rfl (ly_rf hX 55 3 rfl) ?_
  refine ev_iload (x := x6) (pc := 84) d_mo_far_84 rfl ?_
  refine ev_ialdJ (v := (gI X 57 (Int32.toNatClampNeg x6))) (pc := 86) d_mo_far_86 (ly_at hX 57 rfl) hh.1 rfl ?_
  refine ev_ishl (pc := 87) d_mo_far_87 ?_
  refine ev_ior (pc := 88) d_mo_far_88 ?_
  refine ev_goto (pc := 89) (tgt := 93) d_mo_far_89 (by decide) ?_
  refine ev_ior (pc := 93) d_mo_far_93 ?_
  refine ev_istore (L2 := [(0, .ref 55), (1, .int x1), (2, .int x2), (3, .int x3), (4, .int x4), (5, .int (t0 ||| (((1 : Int32) <<< ((gI X 56 (Int32.toNatClampNeg x6)) &&& 31)) ||| ((1 : Int32) <<< ((gI X 57 (Int32.toNatClampNeg x6)) &&& 31))))), (6, .int x6)]) (pc := 94) d_mo_far_94 rfl (Nat.le_of_ble_eq_true rfl) rfl ?_
  refine ev_iinc (v := (x6 + 1)) (L2 := [(0, .ref 55), (1, .int x1), (2, .int x2), (3, .int x3), (4, .int x4), (5, .int (t0 ||| (((1 : Int32) <<< ((gI X 56 (Int32.toNatClampNeg x6)) &&& 31)) ||| ((1 : Int32) <<< ((gI X 57 (Int32.toNatClampNeg x6)) &&& 31))))), (6, .int (x6 + 1))]) (pc := 96) d_mo_far_96 rfl (by rw [kc_i_1]) rfl (Nat.le_of_ble_eq_true rfl) rfl ?_
  refine ev_goto (pc := 99) (tgt := 31) d_mo_far_99 (by decide) ?_
  exact hh.2
theorem b_mo_smellOf_0 {E : gp_E} {S : gp_S} {X : gp_H} {Q : Option Value → gp_H → Prop} {x1 : Int32} {x2 : Int32} (hX : Lay S X)  (hh : (((iw x1 0 ((gI X 55 50) - 1)) = true → (((x2.toInt < 0 ∨ 4 < x2.toInt) → Q (some (.int (-5))) X) ∧ (x2 = 0 → (vp_in x1 30 ∧ Q (some (.int (gI X 93 (Int32.toNatClampNeg x1)))) X)) ∧ (x2 = 1 → (vp_in x1 30 ∧ Q (some (.int (gI X 94 (Int32.toNatClampNeg x1)))) X)) ∧ (x2 = 2 → (vp_in x1 30 ∧ Q (some (.int (gI X 95 (Int32.toNatClampNeg x1)))) X)) ∧ (x2 = 3 → (vp_in x1 30 ∧ Q (some (.int (gI X 96 (Int32.toNatClampNeg x1)))) X)) ∧ (x2 = 4 → (vp_in x1 30 ∧ (((gI X 95 (Int32.toNatClampNeg x1)) = (-1) → Q (some (.int 1)) X) ∧ (¬ (gI X 95 (Int32.toNatClampNeg x1)) = (-1) → ((((gI X 96 (Int32.toNatClampNeg x1)) - (gI X 94 (Int32.toNatClampNeg x1))) ≤ (gI X 55 55) → Q (some (.int 0)) X) ∧ (¬ ((gI X 96 (Int32.toNatClampNeg x1)) - (gI X 94 (Int32.toNatClampNeg x1))) ≤ (gI X 55 55) → Q (some (.int 1)) X)))))))) ∧ ((iw x1 0 ((gI X 55 50) - 1)) = false → Q (some (.int (-5))) X))) : Ev E m_mo_smellOf 0 [(0, .ref 55), (1, .int x1), (2, .int x2)] [] X (0, 0) Q := by
  refine ev_iload_n (x := x1) (pc := 0) d_mo_smellOf_0 rfl ?_
  refine ev_iconst (v := 0) (pc := 1) d_mo_smellOf_1 kc_i_0 ?_
  refine ev_aload_n (x := 55) (pc := 2) d_mo_smellOf_2 rfl ?_
  refine ev_getJ (v := (gI X 55 50)) (pc := 3) d_mo_smellOf_3 f_mo_337 (ly_at hX 55 rfl) gg_12 rfl rfl ?_
  refine ev_iconst (v := 1) (pc := 6) d_mo_smellOf_6 kc_i_1 ?_
  refine ev_isub (pc := 7) d_mo_smellOf_7 ?_
  refine ev_callS (z := m_mo_in) (as := [.int x1, .int 0, .int ((gI X 55 50) - 1)]) (rest := []) (pc := 8) d_mo_smellOf_8 l_mo_196 i_mo_in o_mo_in rfl rfl (Nat.le_of_ble_eq_true rfl) rfl (Nat.le_of_ble_eq_true rfl) ⟨Nat.le_of_ble_eq_true rfl, Nat.le_of_ble_eq_true rfl⟩ (s_mo_in hX x1 0 ((gI X 55 50) - 1)) (fun r X1 hq => ?_)
  obtain ⟨rfl, rfl⟩ := hq
  show Ev E m_mo_smellOf 11 [(0, .ref 55), (1, .int x1), (2, .int x2)] [.int (bz (iw x1 0 ((gI X 55 50) - 1)))] X (0, 0) Q
  refine ev_ifz_ne (pc := 11) (tgt := 17) d_mo_smellOf_11 (by decide) (fun c_1 => ?_) (fun c_1 => ?_)
  · have h_2 := hh.1 c_1
    refine ev_iload_n (x := x2) (pc := 17) d_mo_smellOf_17 rfl ?_
    rcases gp_tab (lo := 0) (n := 5) x2 with c_16 | ⟨k, hk, c_16⟩
    · have h_4 := h_2.1 (by omega)
      refine ev_tableOut (pc := 18) (tgt := 116) d_mo_smellOf_18 (by omega) (by decide) ?_
      refine ev_bipush (v := (-5)) (pc := 116) d_mo_smellOf_116 kc_b_m5 ?_
      exact ev_iret (pc := 118) ⟨Nat.le_of_ble_eq_true rfl, Nat.le_of_ble_eq_true rfl⟩ d_mo_smellOf_118 rfl (vp_nar_int _) h_4
    · match k, hk, c_16 with
      | 0, _, c_16 =>
        have c_16e : x2 = 0 := gp_eqi (c_16.trans (by decide : (0 : Int) + ((0 : Nat) : Int) = 0)) (by decide)
        have h_5 := h_2.2.1 c_16e
        refine ev_tableIn (pc := 18) (off := 34) (tgt := 52) d_mo_smellOf_18 (by rw [c_16e]; decide) (by rw [c_16e]; decide) (by rw [c_16e]; decide) (by decide) ?_
        refine ev_aload_n (x := 55) (pc := 52) d_mo_smellOf_52 rfl ?_
        refine ev_getR (pc := 53) d_mo_smellOf_53 f_mo_126 (ly_at hX 55 rfl) gg_12 rfl (ly_rf hX 55 51 rfl) ?_
        refine ev_iload_n (x := x1) (pc := 56) d_mo_smellOf_56 rfl ?_
        refine ev_ialdJ (v := (gI X 93 (Int32.toNatClampNeg x1))) (pc := 57) d_mo_smellOf_57 (ly_at hX 93 rfl) h_5.1 rfl ?_
        exact ev_iret (pc := 58) ⟨Nat.le_of_ble_eq_true rfl, Nat.le_of_ble_eq_true rfl⟩ d_mo_smellOf_58 rfl (vp_nar_int _) h_5.2
      | 1, _, c_16 =>
        have c_16e : x2 = 1 := gp_eqi (c_16.trans (by decide : (0 : Int) + ((1 : Nat) : Int) = 1)) (by decide)
        have h_6 := h_2.2.2.1 c_16e
        refine ev_tableIn (pc := 18) (off := 41) (tgt := 59) d_mo_smellOf_18 (by rw [c_16e]; decide) (by rw [c_16e]; decide) (by rw [c_16e]; decide) (by decide) ?_
        refine ev_aload_n (x := 55) (pc := 59) d_mo_smellOf_59 rfl ?_
        refine ev_getR (pc := 60) d_mo_smellOf_60 f_mo_129 (ly_at hX 55 rfl) gg_12 rfl (ly_rf hX 55 52 rfl) ?_
        refine ev_iload_n (x := x1) (pc := 63) d_mo_smellOf_63 rfl ?_
        refine ev_ialdJ (v := (gI X 94 (Int32.toNatClampNeg x1))) (pc := 64) d_mo_smellOf_64 (ly_at hX 94 rfl) h_6.1 rfl ?_
        exact ev_iret (pc := 65) ⟨Nat.le_of_ble_eq_true rfl, Nat.le_of_ble_eq_true rfl⟩ d_mo_smellOf_65 rfl (vp_nar_int _) h_6.2
      | 2, _, c_16 =>
        have c_16e : x2 = 2 := gp_eqi (c_16.trans (by decide : (0 : Int) + ((2 : Nat) : Int) = 2)) (by decide)
        have h_7 := h_2.2.2.2.1 c_16e
        refine ev_tableIn (pc := 18) (off := 48) (tgt := 66) d_mo_smellOf_18 (by rw [c_16e]; decide) (by rw [c_16e]; decide) (by rw [c_16e]; decide) (by decide) ?_
        refine ev_aload_n (x := 55) (pc := 66) d_mo_smellOf_66 rfl ?_
        refine ev_getR (pc := 67) d_mo_smellOf_67 f_mo_132 (ly_at hX 55 rfl) gg_12 rfl (ly_rf hX 55 53 rfl) ?_
        refine ev_iload_n (x := x1) (pc := 70) d_mo_smellOf_70 rfl ?_
        refine ev_ialdJ (v := (gI X 95 (Int32.toNatClampNeg x1))) (pc := 71) d_mo_smellOf_71 (ly_at hX 95 rfl) h_7.1 rfl ?_
        exact ev_iret (pc := 72) ⟨Nat.le_of_ble_eq_true rfl, Nat.le_of_ble_eq_true rfl⟩ d_mo_smellOf_72 rfl (vp_nar_int _) h_7.2
      | 3, _, c_16 =>
        have c_16e : x2 = 3 := gp_eqi (c_16.trans (by decide : (0 : Int) + ((3 : Nat) : Int) = 3)) (by decide)
        have h_8 := h_2.2.2.2.2.1 c_16e
        refine ev_tableIn (pc := 18) (off := 55) (tgt := 73) d_mo_smellOf_18 (by rw [c_16e]; decide) (by rw [c_16e]; decide) (by rw [c_16e]; decide) (by decide) ?_
        refine ev_aload_n (x := 55) (pc := 73) d_mo_smellOf_73 rfl ?_
        refine ev_getR (pc := 74) d_mo_smellOf_74 f_mo_135 (ly_at hX 55 rfl) gg_12 rfl (ly_rf hX 55 54 rfl) ?_
        refine ev_iload_n (x := x1) (pc := 77) d_mo_smellOf_77 rfl ?_
        refine ev_ialdJ (v := (gI X 96 (Int32.toNatClampNeg x1))) (pc := 78) d_mo_smellOf_78 (ly_at hX 96 rfl) h_8.1 rfl ?_
        exact ev_iret (pc := 79) ⟨Nat.le_of_ble_eq_true rfl, Nat.le_of_ble_eq_true rfl⟩ d_mo_smellOf_79 rfl (vp_nar_int _) h_8.2
      | 4, _, c_16 =>
        have c_16e : x2 = 4 := gp_eqi (c_16.trans (by decide : (0 : Int) + ((4 : Nat) : Int) = 4)) (by decide)
        have h_9 := h_2.2.2.2.2.2 c_16e
        refine ev_tableIn (pc := 18) (off := 62) (tgt := 80) d_mo_smellOf_18 (by rw [c_16e]; decide) (by rw [c_16e]; decide) (by rw [c_16e]; decide) (by decide) ?_
        refine ev_aload_n (x := 55) (pc := 80) d_mo_smellOf_80 rfl ?_
        refine ev_getR (pc := 81) d_mo_smellOf_81 f_mo_132 (ly_at hX 55 rfl) gg_12 rfl (ly_rf hX 55 53 rfl) ?_
        refine ev_iload_n (x := x1) (pc := 84) d_mo_smellOf_84 rfl ?_
        refine ev_ialdJ (v := (gI X 95 (Int32.toNatClampNeg x1))) (pc := 85) d_mo_smellOf_85 (ly_at hX 95 rfl) h_9.1 rfl ?_
        refine ev_iconst (v := (-1)) (pc := 86) d_mo_smellOf_86 kc_i_m1 ?_
        refine ev_icmp_eq (pc := 87) (tgt := 110) d_mo_smellOf_87 (by decide) (fun c_10 => ?_) (fun c_10 => ?_)
        · have h_11 := h_9.2.1 c_10
          refine ev_iconst (v := 1) (pc := 110) d_mo_smellOf_110 kc_i_1 ?_
          refine ev_goto (pc := 111) (tgt := 115) d_mo_smellOf_111 (by decide) ?_
          exact ev_iret (pc := 115) ⟨Nat.le_of_ble_eq_true rfl, Nat.le_of_ble_eq_true rfl⟩ d_mo_smellOf_115 rfl (vp_nar_int _) h_11
        · have h_12 := h_9.2.2 c_10
          refine ev_aload_n (x := 55) (pc := 90) d_mo_smellOf_90 rfl ?_
          refine ev_getR (pc := 91) d_mo_smellOf_91 f_mo_135 (ly_at hX 55 rfl) gg_12 rfl (ly_rf hX 55 54 rfl) ?_
          refine ev_iload_n (x := x1) (pc := 94) d_mo_smellOf_94 rfl ?_
          refine ev_ialdJ (v := (gI X 96 (Int32.toNatClampNeg x1))) (pc := 95) d_mo_smellOf_95 (ly_at hX 96 rfl) h_9.1 rfl ?_
          refine ev_aload_n (x := 55) (pc := 96) d_mo_smellOf_96 rfl ?_
          refine ev_getR (pc := 97) d_mo_smellOf_97 f_mo_129 (ly_at hX 55 rfl) gg_12 rfl (ly_rf hX 55 52 rfl) ?_
          refine ev_iload_n (x := x1) (pc := 100) d_mo_smellOf_100 rfl ?_
          refine ev_ialdJ (v := (gI X 94 (Int32.toNatClampNeg x1))) (pc := 101) d_mo_smellOf_101 (ly_at hX 94 rfl) h_9.1 rfl ?_
          refine ev_isub (pc := 102) d_mo_smellOf_102 ?_
          refine ev_aload_n (x := 55) (pc := 103) d_mo_smellOf_103 rfl ?_
          refine ev_getJ (v := (gI X 55 55)) (pc := 104) d_mo_smellOf_104 f_mo_138 (ly_at hX 55 rfl) gg_12 rfl rfl ?_
          refine ev_icmp_le (pc := 107) (tgt := 114) d_mo_smellOf_107 (by decide) (fun c_13 => ?_) (fun c_13 => ?_)
          · have h_14 := h_12.1 c_13
            refine ev_iconst (v := 0) (pc := 114) d_mo_smellOf_114 kc_i_0 ?_
            exact ev_iret (pc := 115) ⟨Nat.le_of_ble_eq_true rfl, Nat.le_of_ble_eq_true rfl⟩ d_mo_smellOf_115 rfl (vp_nar_int _) h_14
          · have h_15 := h_12.2 c_13
            refine ev_iconst (v := 1) (pc := 110) d_mo_smellOf_110 kc_i_1 ?_
            refine ev_goto (pc := 111) (tgt := 115) d_mo_smellOf_111 (by decide) ?_
            exact ev_iret (pc := 115) ⟨Nat.le_of_ble_eq_true rfl, Nat.le_of_ble_eq_true rfl⟩ d_mo_smellOf_115 rfl (vp_nar_int _) h_15
      | k + 5, hk, _ => exact absurd hk (by omega)
  · have h_3 := hh.2 c_1
    refine ev_bipush (v := (-5)) (pc := 14) d_mo_smellOf_14 kc_b_m5 ?_
    exact ev_iret (pc := 16) ⟨Nat.le_of_ble_eq_true rfl, Nat.le_of_ble_eq_true rfl⟩ d_mo_smellOf_16 rfl (vp_nar_int _) h_3
theorem b_mo_limit_0 {E : gp_E} {S : gp_S} {X : gp_H} {Q : Option Value → gp_H → Prop} {x1 : Int32} (hX : Lay S X)  (hh : (((iw x1 0 999) = true → Q (some (.int (gI X 55 55))) (gp_sI X 55 55 x1)) ∧ ((iw x1 0 999) = false → Q (some (.int (-2))) X))) : Ev E m_mo_limit 0 [(0, .ref 55), (1, .int x1)] [] X (0, 0) Q := by
  refine ev_iload_n (x := x1) (pc := 0) d_mo_limit_0 rfl ?_
  refine ev_iconst (v := 0) (pc := 1) d_mo_limit_1 kc_i_0 ?_
  refine ev_sipush (v := 999) (pc := 2) d_mo_limit_2 kc_s_999 ?_
  refine ev_callS (z := m_mo_in) (as := [.int x1, .int 0, .int 999]) (rest := []) (pc := 5) d_mo_limit_5 l_mo_196 i_mo_in o_mo_in rfl rfl (Nat.le_of_ble_eq_true rfl) rfl (Nat.le_of_ble_eq_true rfl) ⟨Nat.le_of_ble_eq_true rfl, Nat.le_of_ble_eq_true rfl⟩ (s_mo_in hX x1 0 999) (fun r X1 hq => ?_)
  obtain ⟨rfl, rfl⟩ := hq
  show Ev E m_mo_limit 8 [(0, .ref 55), (1, .int x1)] [.int (bz (iw x1 0 999))] X (0, 0) Q
  refine ev_ifz_ne (pc := 8) (tgt := 14) d_mo_limit_8 (by decide) (fun c_1 => ?_) (fun c_1 => ?_)
  · have h_2 := hh.1 c_1
    refine ev_aload_n (x := 55) (pc := 14) d_mo_limit_14 rfl ?_
    refine ev_getJ (v := (gI X 55 55)) (pc := 15) d_mo_limit_15 f_mo_138 (ly_at hX 55 rfl) gg_12 rfl rfl ?_
    refine ev_istore_n (L2 := [(0, .ref 55), (1, .int x1), (2, .int (gI X 55 55))]) (pc := 18) d_mo_limit_18 rfl (Nat.le_of_ble_eq_true rfl) rfl ?_
    refine ev_aload_n (x := 55) (pc := 19) d_mo_limit_19 rfl ?_
    refine ev_iload_n (x := x1) (pc := 20) d_mo_limit_20 rfl ?_
    refine ev_putI (pc := 21) d_mo_limit_21 f_mo_138 (ly_at hX 55 rfl) gg_12 rfl (Or.inl rfl) (vp_nar_int _) rfl ?_
    refine ev_iload_n (x := (gI X 55 55)) (pc := 24) d_mo_limit_24 rfl ?_
    exact ev_iret (pc := 25) ⟨Nat.le_of_ble_eq_true rfl, Nat.le_of_ble_eq_true rfl⟩ d_mo_limit_25 rfl (vp_nar_int _) h_2
  · have h_3 := hh.2 c_1
    refine ev_bipush (v := (-2)) (pc := 11) d_mo_limit_11 kc_b_m2 ?_
    exact ev_iret (pc := 13) ⟨Nat.le_of_ble_eq_true rfl, Nat.le_of_ble_eq_true rfl⟩ d_mo_limit_13 rfl (vp_nar_int _) h_3
theorem b_mo_fault_0 {E : gp_E} {S : gp_S} {X : gp_H} {Q : Option Value → gp_H → Prop} {x1 : Int32} (hX : Lay S X)  (hh : (((iw x1 0 ((gI X 55 19) - 1)) = true → (vp_in x1 40 ∧ ((¬ (gI X 74 (Int32.toNatClampNeg x1)) = 1 → Q (some (.int (-3))) X) ∧ ((gI X 74 (Int32.toNatClampNeg x1)) = 1 → (((gI X 78 (Int32.toNatClampNeg x1)) = 0 → Q (some (.int ((gI X 55 56) + 1))) (gp_sI (gp_sI X 78 (Int32.toNatClampNeg x1) 1) 55 56 ((gI X 55 56) + 1))) ∧ (¬ (gI X 78 (Int32.toNatClampNeg x1)) = 0 → Q (some (.int (-3))) X)))))) ∧ ((iw x1 0 ((gI X 55 19) - 1)) = false → Q (some (.int (-1))) X))) : Ev E m_mo_fault 0 [(0, .ref 55), (1, .int x1)] [] X (0, 0) Q := by
  refine ev_aload_n (x := 55) (pc := 0) d_mo_fault_0 rfl ?_
  refine ev_iload_n (x := x1) (pc := 1) d_mo_fault_1 rfl ?_
  refine ev_callV (z := m_mo_isHome) (as := [.int x1]) (rest := []) (pc := 2) d_mo_fault_2 (ly_at hX 55 rfl) lt13_12 rfl l_mo_251 i_mo_isHome v_mo_isHome o_mo_isHome rfl rfl (Nat.le_of_ble_eq_true rfl) rfl (Nat.le_of_ble_eq_true rfl) ⟨Nat.le_of_ble_eq_true rfl, Nat.le_of_ble_eq_true rfl⟩ (s_mo_isHome hX x1 ) (fun r X1 hq => ?_)
  obtain ⟨rfl, rfl⟩ := hq
  show Ev E m_mo_fault 5 [(0, .ref 55), (1, .int x1)] [.int (bz (iw x1 0 ((gI X 55 19) - 1)))] X (0, 0) Q
  refine ev_ifz_ne (pc := 5) (tgt := 10) d_mo_fault_5 (by decide) (fun c_1 => ?_) (fun c_1 => ?_)
  · have h_2 := hh.1 c_1
    refine ev_aload_n (x := 55) (pc := 10) d_mo_fault_10 rfl ?_
    refine ev_getR (pc := 11) d_mo_fault_11 f_mo_69 (ly_at hX 55 rfl) gg_12 rfl (ly_rf hX 55 24 rfl) ?_
    refine ev_iload_n (x := x1) (pc := 14) d_mo_fault_14 rfl ?_
    refine ev_ialdJ (v := (gI X 74 (Int32.toNatClampNeg x1))) (pc := 15) d_mo_fault_15 (ly_at hX 74 rfl) h_2.1 rfl ?_
    refine ev_iconst (v := 1) (pc := 16) d_mo_fault_16 kc_i_1 ?_
    refine ev_icmp_ne (pc := 17) (tgt := 29) d_mo_fault_17 (by decide) (fun c_4 => ?_) (fun c_4 => ?_)
    · have h_5 := h_2.2.1 c_4
      refine ev_bipush (v := (-3)) (pc := 29) d_mo_fault_29 kc_b_m3 ?_
      exact ev_iret (pc := 31) ⟨Nat.le_of_ble_eq_true rfl, Nat.le_of_ble_eq_true rfl⟩ d_mo_fault_31 rfl (vp_nar_int _) h_5
    · have h_6 := h_2.2.2 c_4
      refine ev_aload_n (x := 55) (pc := 20) d_mo_fault_20 rfl ?_
      refine ev_getR (pc := 21) d_mo_fault_21 f_mo_81 (ly_at hX 55 rfl) gg_12 rfl (ly_rf hX 55 28 rfl) ?_
      refine ev_iload_n (x := x1) (pc := 24) d_mo_fault_24 rfl ?_
      refine ev_zaldJ (v := (gI X 78 (Int32.toNatClampNeg x1))) (pc := 25) d_mo_fault_25 (ly_at hX 78 rfl) h_2.1 rfl ?_
      refine ev_if_eq (pc := 26) (tgt := 32) d_mo_fault_26 (by decide) (fun c_7 => ?_) (fun c_7 => ?_)
      · have h_8 := h_6.1 c_7
        refine ev_aload_n (x := 55) (pc := 32) d_mo_fault_32 rfl ?_
        refine ev_getR (pc := 33) d_mo_fault_33 f_mo_81 (ly_at hX 55 rfl) gg_12 rfl (ly_rf hX 55 28 rfl) ?_
        refine ev_iload_n (x := x1) (pc := 36) d_mo_fault_36 rfl ?_
        refine ev_iconst (v := 1) (pc := 37) d_mo_fault_37 kc_i_1 ?_
        refine ev_zast (pc := 38) d_mo_fault_38 (ly_at hX 78 rfl) h_2.1 nb_1 ?_
        refine ev_aload_n (x := 55) (pc := 39) d_mo_fault_39 rfl ?_
        refine ev_dup (pc := 40) d_mo_fault_40 rfl ?_
        refine ev_getJ (v := (gI X 55 56)) (pc := 41) d_mo_fault_41 f_mo_343 (ly_at (ly_sI hX) 55 rfl) gg_12 rfl rfl ?_
        refine ev_iconst (v := 1) (pc := 44) d_mo_fault_44 kc_i_1 ?_
        refine ev_iadd (pc := 45) d_mo_fault_45 ?_
        refine ev_putI (pc := 46) d_mo_fault_46 f_mo_343 (ly_at (ly_sI hX) 55 rfl) gg_12 rfl (Or.inl rfl) (vp_nar_int _) rfl ?_
        refine ev_aload_n (x := 55) (pc := 49) d_mo_fault_49 rfl ?_
        refine ev_getJ (v := ((gI X 55 56) + 1)) (pc := 50) d_mo_fault_50 f_mo_343 (ly_at (ly_sI (ly_sI hX)) 55 rfl) gg_12 rfl rfl ?_
        exact ev_iret (pc := 53) ⟨Nat.le_of_ble_eq_true rfl, Nat.le_of_ble_eq_true rfl⟩ d_mo_fault_53 rfl (vp_nar_int _) h_8
      · have h_9 := h_6.2 c_7
        refine ev_bipush (v := (-3)) (pc := 29) d_mo_fault_29 kc_b_m3 ?_
        exact ev_iret (pc := 31) ⟨Nat.le_of_ble_eq_true rfl, Nat.le_of_ble_eq_true rfl⟩ d_mo_fault_31 rfl (vp_nar_int _) h_9
  · have h_3 := hh.2 c_1
    refine ev_iconst (v := (-1)) (pc := 8) d_mo_fault_8 kc_i_m1 ?_
    exact ev_iret (pc := 9) ⟨Nat.le_of_ble_eq_true rfl, Nat.le_of_ble_eq_true rfl⟩ d_mo_fault_9 rfl (vp_nar_int _) h_3
theorem b_mo_beyond_0 {E : gp_E} {S : gp_S} {X : gp_H} {Q : Option Value → gp_H → Prop} {x1 : Int32} {x2 : Int32} (hX : Lay S X)  (hh : (((iw x1 0 ((gI X 55 13) - 1)) = true → (((iw x2 1 9999) = true → Ev E m_mo_beyond 38 [(0, .ref 55), (1, .int x1), (2, .int x2), (3, .int 0), (4, .int 0), (5, .int 0), (6, .int 0), (7, .int 0)] [] X (0, 0) Q) ∧ ((iw x2 1 9999) = false → Q (some (.int (-2))) X))) ∧ ((iw x1 0 ((gI X 55 13) - 1)) = false → Q (some (.int (-1))) X))) : Ev E m_mo_beyond 0 [(0, .ref 55), (1, .int x1), (2, .int x2)] [] X (0, 0) Q := by
  refine ev_aload_n (x := 55) (pc := 0) d_mo_beyond_0 rfl ?_
  refine ev_iload_n (x := x1) (pc := 1) d_mo_beyond_1 rfl ?_
  refine ev_callV (z := m_mo_isModel) (as := [.int x1]) (rest := []) (pc := 2) d_mo_beyond_2 (ly_at hX 55 rfl) lt13_12 rfl l_mo_248 i_mo_isModel v_mo_isModel o_mo_isModel rfl rfl (Nat.le_of_ble_eq_true rfl) rfl (Nat.le_of_ble_eq_true rfl) ⟨Nat.le_of_ble_eq_true rfl, Nat.le_of_ble_eq_true rfl⟩ (s_mo_isModel hX x1 ) (fun r X1 hq => ?_)
  obtain ⟨rfl, rfl⟩ := hq
  show Ev E m_mo_beyond 5 [(0, .ref 55), (1, .int x1), (2, .int x2)] [.int (bz (iw x1 0 ((gI X 55 13) - 1)))] X (0, 0) Q
  refine ev_ifz_ne (pc := 5) (tgt := 10) d_mo_beyond_5 (by decide) (fun c_1 => ?_) (fun c_1 => ?_)
  · have h_2 := hh.1 c_1
    refine ev_iload_n (x := x2) (pc := 10) d_mo_beyond_10 rfl ?_
    refine ev_iconst (v := 1) (pc := 11) d_mo_beyond_11 kc_i_1 ?_
    refine ev_sipush (v := 9999) (pc := 12) d_mo_beyond_12 kc_s_9999 ?_
    refine ev_callS (z := m_mo_in) (as := [.int x2, .int 1, .int 9999]) (rest := []) (pc := 15) d_mo_beyond_15 l_mo_196 i_mo_in o_mo_in rfl rfl (Nat.le_of_ble_eq_true rfl) rfl (Nat.le_of_ble_eq_true rfl) ⟨Nat.le_of_ble_eq_true rfl, Nat.le_of_ble_eq_true rfl⟩ (s_mo_in hX x2 1 9999) (fun r X1 hq => ?_)
    obtain ⟨rfl, rfl⟩ := hq
    show Ev E m_mo_beyond 18 [(0, .ref 55), (1, .int x1), (2, .int x2)] [.int (bz (iw x2 1 9999))] X (0, 0) Q
    refine ev_ifz_ne (pc := 18) (tgt := 24) d_mo_beyond_18 (by decide) (fun c_4 => ?_) (fun c_4 => ?_)
    · have h_5 := h_2.1 c_4
      refine ev_iconst (v := 0) (pc := 24) d_mo_beyond_24 kc_i_0 ?_
      refine ev_istore_n (L2 := [(0, .ref 55), (1, .int x1), (2, .int x2), (3, .int 0)]) (pc := 25) d_mo_beyond_25 rfl (Nat.le_of_ble_eq_true rfl) rfl ?_
      refine ev_iconst (v := 0) (pc := 26) d_mo_beyond_26 kc_i_0 ?_
      refine ev_istore (L2 := [(0, .ref 55), (1, .int x1), (2, .int x2), (3, .int 0), (4, .int 0)]) (pc := 27) d_mo_beyond_27 rfl (Nat.le_of_ble_eq_true rfl) rfl ?_
      refine ev_iconst (v := 0) (pc := 29) d_mo_beyond_29 kc_i_0 ?_
      refine ev_istore (L2 := [(0, .ref 55), (1, .int x1), (2, .int x2), (3, .int 0), (4, .int 0), (5, .int 0)]) (pc := 30) d_mo_beyond_30 rfl (Nat.le_of_ble_eq_true rfl) rfl ?_
      refine ev_iconst (v := 0) (pc := 32) d_mo_beyond_32 kc_i_0 ?_
      refine ev_istore (L2 := [(0, .ref 55), (1, .int x1), (2, .int x2), (3, .int 0), (4, .int 0), (5, .int 0), (6, .int 0)]) (pc := 33) d_mo_beyond_33 rfl (Nat.le_of_ble_eq_true rfl) rfl ?_
      refine ev_iconst (v := 0) (pc := 35) d_mo_beyond_35 kc_i_0 ?_
      refine ev_istore (L2 := [(0, .ref 55), (1, .int x1), (2, .int x2), (3, .int 0), (4, .int 0), (5, .int 0), (6, .int 0), (7, .int 0)]) (pc := 36) d_mo_beyond_36 rfl (Nat.le_of_ble_eq_true rfl) rfl ?_
      exact h_5
    · have h_6 := h_2.2 c_4
      refine ev_bipush (v := (-2)) (pc := 21) d_mo_beyond_21 kc_b_m2 ?_
      exact ev_iret (pc := 23) ⟨Nat.le_of_ble_eq_true rfl, Nat.le_of_ble_eq_true rfl⟩ d_mo_beyond_23 rfl (vp_nar_int _) h_6
  · have h_3 := hh.2 c_1
    refine ev_iconst (v := (-1)) (pc := 8) d_mo_beyond_8 kc_i_m1 ?_
    exact ev_iret (pc := 9) ⟨Nat.le_of_ble_eq_true rfl, Nat.le_of_ble_eq_true rfl⟩ d_mo_beyond_9 rfl (vp_nar_int _) h_3
theorem b_mo_beyond_38 {E : gp_E} {S : gp_S} {X : gp_H} {Q : Option Value → gp_H → Prop} {x1 : Int32} {x2 : Int32} {x3 : Int32} {x4 : Int32} {x5 : Int32} {x6 : Int32} {x7 : Int32} (hX : Lay S X)  (hh : (((gI X 55 19) ≤ x7 → (∃ Qz_4, Ev E m_mo_reckons 0 [(0, .ref 55)] [] X (0, 0) Qz_4 ∧ ∀ r X_7, Qz_4 r X_7 → (r = none ∧ Lay S X_7 ∧ Ev E m_mo_beyond 172 [(0, .ref 55), (1, .int x1), (2, .int x2), (3, .int x3), (4, .int x4), (5, .int x5), (6, .int x6), (7, .long 0), (9, .int x4)] [] X_7 (0, 0) Q))) ∧ (¬ (gI X 55 19) ≤ x7 → (vp_in x7 40 ∧ ((¬ (gI X 73 (Int32.toNatClampNeg x7)) = x1 → Ev E m_mo_beyond 63 [(0, .ref 55), (1, .int x1), (2, .int x2), (3, .int x3), (4, .int x4), (5, .int x5), (6, .int x6), (7, .int x7)] [.int 0] X (0, 0) Q) ∧ ((gI X 73 (Int32.toNatClampNeg x7)) = x1 → Ev E m_mo_beyond 63 [(0, .ref 55), (1, .int x1), (2, .int x2), (3, .int x3), (4, .int x4), (5, .int x5), (6, .int x6), (7, .int x7)] [.int 1] X (0, 0) Q)))))) : Ev E m_mo_beyond 38 [(0, .ref 55), (1, .int x1), (2, .int x2), (3, .int x3), (4, .int x4), (5, .int x5), (6, .int x6), (7, .int x7)] [] X (0, 0) Q := by
  refine ev_iload (x := x7) (pc := 38) d_mo_beyond_38 rfl ?_
  refine ev_aload_n (x := 55) (pc := 40) d_mo_beyond_40 rfl ?_
  refine ev_getJ (v := (gI X 55 19)) (pc := 41) d_mo_beyond_41 f_mo_200 (ly_at hX 55 rfl) gg_12 rfl rfl ?_
  refine ev_icmp_ge (pc := 44) (tgt := 161) d_mo_beyond_44 (by decide) (fun c_1 => ?_) (fun c_1 => ?_)
  · have h_2 := hh.1 c_1
    refine ev_aload_n (x := 55) (pc := 161) d_mo_beyond_161 rfl ?_
    obtain ⟨Qz_4, hc_5, hk_6⟩ := h_2
    refine ev_callV (z := m_mo_reckons) (as := []) (rest := []) (pc := 162) d_mo_beyond_162 (ly_at hX 55 rfl) lt13_12 rfl l_mo_346 i_mo_reckons v_mo_reckons o_mo_reckons rfl rfl (Nat.le_of_ble_eq_true rfl) rfl (Nat.le_of_ble_eq_true rfl) ⟨Nat.le_of_ble_eq_true rfl, Nat.le_of_ble_eq_true rfl⟩ hc_5 (fun r_8 X_7 hq_9 => ?_)
    obtain ⟨rfl, hX_11, h_10⟩ := hk_6 _ _ hq_9
    show Ev E m_mo_beyond 165 [(0, .ref 55), (1, .int x1), (2, .int x2), (3, .int x3), (4, .int x4), (5, .int x5), (6, .int x6), (7, .int x7)] [] X_7 (0, 0) Q
    refine ev_lconst (v := 0) (pc := 165) d_mo_beyond_165 rfl ?_
    refine ev_lstore (L2 := [(0, .ref 55), (1, .int x1), (2, .int x2), (3, .int x3), (4, .int x4), (5, .int x5), (6, .int x6), (7, .long 0)]) (pc := 166) d_mo_beyond_166 rfl rfl (Nat.le_of_ble_eq_true rfl) rfl ?_
    refine ev_iload (x := x4) (pc := 168) d_mo_beyond_168 rfl ?_
    refine ev_istore (L2 := [(0, .ref 55), (1, .int x1), (2, .int x2), (3, .int x3), (4, .int x4), (5, .int x5), (6, .int x6), (7, .long 0), (9, .int x4)]) (pc := 170) d_mo_beyond_170 rfl (Nat.le_of_ble_eq_true rfl) rfl ?_
    exact h_10
  · have h_3 := hh.2 c_1
    refine ev_aload_n (x := 55) (pc := 47) d_mo_beyond_47 rfl ?_
    refine ev_getR (pc := 48) d_mo_beyond_48 f_mo_66 (ly_at hX 55 rfl) gg_12 rfl (ly_rf hX 55 23 rfl) ?_
    refine ev_iload (x := x7) (pc := 51) d_mo_beyond_51 rfl ?_
    refine ev_ialdJ (v := (gI X 73 (Int32.toNatClampNeg x7))) (pc := 53) d_mo_beyond_53 (ly_at hX 73 rfl) h_3.1 rfl ?_
    refine ev_iload_n (x := x1) (pc := 54) d_mo_beyond_54 rfl ?_
    refine ev_icmp_ne (pc := 55) (tgt := 62) d_mo_beyond_55 (by decide) (fun c_12 => ?_) (fun c_12 => ?_)
    · have h_13 := h_3.2.1 c_12
      refine ev_iconst (v := 0) (pc := 62) d_mo_beyond_62 kc_i_0 ?_
      exact h_13
    · have h_14 := h_3.2.2 c_12
      refine ev_iconst (v := 1) (pc := 58) d_mo_beyond_58 kc_i_1 ?_
      refine ev_goto (pc := 59) (tgt := 63) d_mo_beyond_59 (by decide) ?_
      exact h_14
theorem b_mo_beyond_63 {E : gp_E} {S : gp_S} {X : gp_H} {Q : Option Value → gp_H → Prop} {x1 : Int32} {x2 : Int32} {x3 : Int32} {x4 : Int32} {x5 : Int32} {x6 : Int32} {x7 : Int32} {t0 : Int32} (hX : Lay S X)  (hh : (vp_in x7 40 ∧ ((¬ (gI X 74 (Int32.toNatClampNeg x7)) = 1 → Ev E m_mo_beyond 83 [(0, .ref 55), (1, .int x1), (2, .int x2), (3, .int x3), (4, .int x4), (5, .int x5), (6, .int x6), (7, .int x7), (8, .int t0)] [.int 0, .int x5] X (0, 0) Q) ∧ ((gI X 74 (Int32.toNatClampNeg x7)) = 1 → Ev E m_mo_beyond 83 [(0, .ref 55), (1, .int x1), (2, .int x2), (3, .int x3), (4, .int x4), (5, .int x5), (6, .int x6), (7, .int x7), (8, .int t0)] [.int 1, .int x5] X (0, 0) Q)))) : Ev E m_mo_beyond 63 [(0, .ref 55), (1, .int x1), (2, .int x2), (3, .int x3), (4, .int x4), (5, .int x5), (6, .int x6), (7, .int x7)] [.int t0] X (0, 0) Q := by
  refine ev_istore (L2 := [(0, .ref 55), (1, .int x1), (2, .int x2), (3, .int x3), (4, .int x4), (5, .int x5), (6, .int x6), (7, .int x7), (8, .int t0)]) (pc := 63) d_mo_beyond_63 rfl (Nat.le_of_ble_eq_true rfl) rfl ?_
  refine ev_iload (x := x5) (pc := 65) d_mo_beyond_65 rfl ?_
  refine ev_aload_n (x := 55) (pc := 67) d_mo_beyond_67 rfl ?_
  refine ev_getR (pc := 68) d_mo_beyond_68 f_mo_69 (ly_at hX 55 rfl) gg_12 rfl (ly_rf hX 55 24 rfl) ?_
  refine ev_iload (x := x7) (pc := 71) d_mo_beyond_71 rfl ?_
  refine ev_ialdJ (v := (gI X 74 (Int32.toNatClampNeg x7))) (pc := 73) d_mo_beyond_73 (ly_at hX 74 rfl) hh.1 rfl ?_
  refine ev_iconst (v := 1) (pc := 74) d_mo_beyond_74 kc_i_1 ?_
  refine ev_icmp_ne (pc := 75) (tgt := 82) d_mo_beyond_75 (by decide) (fun c_1 => ?_) (fun c_1 => ?_)
  · have h_2 := hh.2.1 c_1
    refine ev_iconst (v := 0) (pc := 82) d_mo_beyond_82 kc_i_0 ?_
    exact h_2
  · have h_3 := hh.2.2 c_1
    refine ev_iconst (v := 1) (pc := 78) d_mo_beyond_78 kc_i_1 ?_
    refine ev_goto (pc := 79) (tgt := 83) d_mo_beyond_79 (by decide) ?_
    exact h_3
theorem b_mo_beyond_83 {E : gp_E} {S : gp_S} {X : gp_H} {Q : Option Value → gp_H → Prop} {x1 : Int32} {x2 : Int32} {x3 : Int32} {x4 : Int32} {x5 : Int32} {x6 : Int32} {x7 : Int32} {x8 : Int32} {t0 : Int32} {t1 : Int32} (hX : Lay S X)  (hh : (vp_in x7 40 ∧ (((gI X 78 (Int32.toNatClampNeg x7)) = 0 → Ev E m_mo_beyond 103 [(0, .ref 55), (1, .int x1), (2, .int x2), (3, .int x3), (4, .int x4), (5, .int (t1 + t0)), (6, .int x6), (7, .int x7), (8, .int x8)] [.int 0, .int x6] X (0, 0) Q) ∧ (¬ (gI X 78 (Int32.toNatClampNeg x7)) = 0 → Ev E m_mo_beyond 103 [(0, .ref 55), (1, .int x1), (2, .int x2), (3, .int x3), (4, .int x4), (5, .int (t1 + t0)), (6, .int x6), (7, .int x7), (8, .int x8)] [.int 1, .int x6] X (0, 0) Q)))) : Ev E m_mo_beyond 83 [(0, .ref 55), (1, .int x1), (2, .int x2), (3, .int x3), (4, .int x4), (5, .int x5), (6, .int x6), (7, .int x7), (8, .int x8)] [.int t0, .int t1] X (0, 0) Q := by
  refine ev_iadd (pc := 83) d_mo_beyond_83 ?_
  refine ev_istore (L2 := [(0, .ref 55), (1, .int x1), (2, .int x2), (3, .int x3), (4, .int x4), (5, .int (t1 + t0)), (6, .int x6), (7, .int x7), (8, .int x8)]) (pc := 84) d_mo_beyond_84 rfl (Nat.le_of_ble_eq_true rfl) rfl ?_
  refine ev_iload (x := x6) (pc := 86) d_mo_beyond_86 rfl ?_
  refine ev_aload_n (x := 55) (pc := 88) d_mo_beyond_88 rfl ?_
  refine ev_getR (pc := 89) d_mo_beyond_89 f_mo_81 (ly_at hX 55 rfl) gg_12 rfl (ly_rf hX 55 28 rfl) ?_
  refine ev_iload (x := x7) (pc := 92) d_mo_beyond_92 rfl ?_
  refine ev_zaldJ (v := (gI X 78 (Int32.toNatClampNeg x7))) (pc := 94) d_mo_beyond_94 (ly_at hX 78 rfl) hh.1 rfl ?_
  refine ev_if_eq (pc := 95) (tgt := 102) d_mo_beyond_95 (by decide) (fun c_1 => ?_) (fun c_1 => ?_)
  · have h_2 := hh.2.1 c_1
    refine ev_iconst (v := 0) (pc := 102) d_mo_beyond_102 kc_i_0 ?_
    exact h_2
  · have h_3 := hh.2.2 c_1
    refine ev_iconst (v := 1) (pc := 98) d_mo_beyond_98 kc_i_1 ?_
    refine ev_goto (pc := 99) (tgt := 103) d_mo_beyond_99 (by decide) ?_
    exact h_3
theorem b_mo_beyond_103 {E : gp_E} {S : gp_S} {X : gp_H} {Q : Option Value → gp_H → Prop} {x1 : Int32} {x2 : Int32} {x3 : Int32} {x4 : Int32} {x5 : Int32} {x6 : Int32} {x7 : Int32} {x8 : Int32} {t0 : Int32} {t1 : Int32} (hX : Lay S X)  (hh : (vp_in x7 40 ∧ ((¬ (gI X 74 (Int32.toNatClampNeg x7)) = 1 → Ev E m_mo_beyond 127 [(0, .ref 55), (1, .int x1), (2, .int x2), (3, .int x3), (4, .int x4), (5, .int x5), (6, .int (t1 + t0)), (7, .int x7), (8, .int x8)] [.int x3] X (0, 0) Q) ∧ ((gI X 74 (Int32.toNatClampNeg x7)) = 1 → ((x8 = 0 → Ev E m_mo_beyond 127 [(0, .ref 55), (1, .int x1), (2, .int x2), (3, .int x3), (4, .int x4), (5, .int x5), (6, .int (t1 + t0)), (7, .int x7), (8, .int x8)] [.int x3] X (0, 0) Q) ∧ (¬ x8 = 0 → Ev E m_mo_beyond 128 [(0, .ref 55), (1, .int x1), (2, .int x2), (3, .int x3), (4, .int x4), (5, .int x5), (6, .int (t1 + t0)), (7, .int x7), (8, .int x8)] [.int 1, .int x3] X (0, 0) Q)))))) : Ev E m_mo_beyond 103 [(0, .ref 55), (1, .int x1), (2, .int x2), (3, .int x3), (4, .int x4), (5, .int x5), (6, .int x6), (7, .int x7), (8, .int x8)] [.int t0, .int t1] X (0, 0) Q := by
  refine ev_iadd (pc := 103) d_mo_beyond_103 ?_
  refine ev_istore (L2 := [(0, .ref 55), (1, .int x1), (2, .int x2), (3, .int x3), (4, .int x4), (5, .int x5), (6, .int (t1 + t0)), (7, .int x7), (8, .int x8)]) (pc := 104) d_mo_beyond_104 rfl (Nat.le_of_ble_eq_true rfl) rfl ?_
  refine ev_iload_n (x := x3) (pc := 106) d_mo_beyond_106 rfl ?_
  refine ev_aload_n (x := 55) (pc := 107) d_mo_beyond_107 rfl ?_
  refine ev_getR (pc := 108) d_mo_beyond_108 f_mo_69 (ly_at hX 55 rfl) gg_12 rfl (ly_rf hX 55 24 rfl) ?_
  refine ev_iload (x := x7) (pc := 111) d_mo_beyond_111 rfl ?_
  refine ev_ialdJ (v := (gI X 74 (Int32.toNatClampNeg x7))) (pc := 113) d_mo_beyond_113 (ly_at hX 74 rfl) hh.1 rfl ?_
  refine ev_iconst (v := 1) (pc := 114) d_mo_beyond_114 kc_i_1 ?_
  refine ev_icmp_ne (pc := 115) (tgt := 127) d_mo_beyond_115 (by decide) (fun c_1 => ?_) (fun c_1 => ?_)
  · have h_2 := hh.2.1 c_1
    exact h_2
  · have h_3 := hh.2.2 c_1
    refine ev_iload (x := x8) (pc := 118) d_mo_beyond_118 rfl ?_
    refine ev_if_eq (pc := 120) (tgt := 127) d_mo_beyond_120 (by decide) (fun c_4 => ?_) (fun c_4 => ?_)
    · have h_5 := h_3.1 c_4
      exact h_5
    · have h_6 := h_3.2 c_4
      refine ev_iconst (v := 1) (pc := 123) d_mo_beyond_123 kc_i_1 ?_
      refine ev_goto (pc := 124) (tgt := 128) d_mo_beyond_124 (by decide) ?_
      exact h_6
theorem b_mo_beyond_127 {E : gp_E} {S : gp_S} {X : gp_H} {Q : Option Value → gp_H → Prop} {x1 : Int32} {x2 : Int32} {x3 : Int32} {x4 : Int32} {x5 : Int32} {x6 : Int32} {x7 : Int32} {x8 : Int32} {t0 : Int32} (hX : Lay S X)  (hh : Ev E m_mo_beyond 128 [(0, .ref 55), (1, .int x1), (2, .int x2), (3, .int x3), (4, .int x4), (5, .int x5), (6, .int x6), (7, .int x7), (8, .int x8)] [.int 0, .int t0] X (0, 0) Q) : Ev E m_mo_beyond 127 [(0, .ref 55), (1, .int x1), (2, .int x2), (3, .int x3), (4, .int x4), (5, .int x5), (6, .int x6), (7, .int x7), (8, .int x8)] [.int t0] X (0, 0) Q := by
  refine ev_iconst (v := 0) (pc := 127) d_mo_beyond_127 kc_i_0 ?_
  exact hh
theorem b_mo_beyond_128 {E : gp_E} {S : gp_S} {X : gp_H} {Q : Option Value → gp_H → Prop} {x1 : Int32} {x2 : Int32} {x3 : Int32} {x4 : Int32} {x5 : Int32} {x6 : Int32} {x7 : Int32} {x8 : Int32} {t0 : Int32} {t1 : Int32} (hX : Lay S X)  (hh : (vp_in x7 40 ∧ (((gI X 78 (Int32.toNatClampNeg x7)) = 0 → Ev E m_mo_beyond 151 [(0, .ref 55), (1, .int x1), (2, .int x2), (3, .int (t1 + t0)), (4, .int x4), (5, .int x5), (6, .int x6), (7, .int x7), (8, .int x8)] [.int x4] X (0, 0) Q) ∧ (¬ (gI X 78 (Int32.toNatClampNeg x7)) = 0 → ((x8 = 0 → Ev E m_mo_beyond 151 [(0, .ref 55), (1, .int x1), (2, .int x2), (3, .int (t1 + t0)), (4, .int x4), (5, .int x5), (6, .int x6), (7, .int x7), (8, .int x8)] [.int x4] X (0, 0) Q) ∧ (¬ x8 = 0 → Ev E m_mo_beyond 38 [(0, .ref 55), (1, .int x1), (2, .int x2), (3, .int (t1 + t0)), (4, .int (x4 + 1)), (5, .int x5), (6, .int x6), (7, .int (x7 + 1))] [] X (0, 0) Q)))))) : Ev E m_mo_beyond 128 [(0, .ref 55), (1, .int x1), (2, .int x2), (3, .int x3), (4, .int x4), (5, .int x5), (6, .int x6), (7, .int x7), (8, .int x8)] [.int t0, .int t1] X (0, 0) Q := by
  refine ev_iadd (pc := 128) d_mo_beyond_128 ?_
  refine ev_istore_n (L2 := [(0, .ref 55), (1, .int x1), (2, .int x2), (3, .int (t1 + t0)), (4, .int x4), (5, .int x5), (6, .int x6), (7, .int x7), (8, .int x8)]) (pc := 129) d_mo_beyond_129 rfl (Nat.le_of_ble_eq_true rfl) rfl ?_
  refine ev_iload (x := x4) (pc := 130) d_mo_beyond_130 rfl ?_
  refine ev_aload_n (x := 55) (pc := 132) d_mo_beyond_132 rfl ?_
  refine ev_getR (pc := 133) d_mo_beyond_133 f_mo_81 (ly_at hX 55 rfl) gg_12 rfl (ly_rf hX 55 28 rfl) ?_
  refine ev_iload (x := x7) (pc := 136) d_mo_beyond_136 rfl ?_
  refine ev_zaldJ (v := (gI X 78 (Int32.toNatClampNeg x7))) (pc := 138) d_mo_beyond_138 (ly_at hX 78 rfl) hh.1 rfl ?_
  refine ev_if_eq (pc := 139) (tgt := 151) d_mo_beyond_139 (by decide) (fun c_1 => ?_) (fun c_1 => ?_)
  · have h_2 := hh.2.1 c_1
    exact h_2
  · have h_3 := hh.2.2 c_1
    refine ev_iload (x := x8) (pc := 142) d_mo_beyond_142 rfl ?_
    refine ev_if_eq (pc := 144) (tgt := 151) d_mo_beyond_144 (by decide) (fun c_4 => ?_) (fun c_4 => ?_)
    · have h_5 := h_3.1 c_4
      exact h_5
    · have h_6 := h_3.2 c_4
      refine ev_iconst (v := 1) (pc := 147) d_mo_beyond_147 kc_i_1 ?_
      refine ev_goto (pc := 148) (tgt := 152) d_mo_beyond_148 (by decide) ?_
      refine ev_iadd (pc := 152) d_mo_beyond_152 ?_
      refine ev_istore (L2 := [(0, .ref 55), (1, .int x1), (2, .int x2), (3, .int (t1 + t0)), (4, .int (x4 + 1)), (5, .int x5), (6, .int x6), (7, .int x7), (8, .int x8)]) (pc := 153) d_mo_beyond_153 rfl (Nat.le_of_ble_eq_true rfl) rfl ?_
      refine ev_iinc (v := (x7 + 1)) (L2 := [(0, .ref 55), (1, .int x1), (2, .int x2), (3, .int (t1 + t0)), (4, .int (x4 + 1)), (5, .int x5), (6, .int x6), (7, .int (x7 + 1)), (8, .int x8)]) (pc := 155) d_mo_beyond_155 rfl (by rw [kc_i_1]) rfl (Nat.le_of_ble_eq_true rfl) rfl ?_
      refine ev_goto (pc := 158) (tgt := 38) d_mo_beyond_158 (by decide) ?_
      exact ev_sub [(0, .ref 55), (1, .int x1), (2, .int x2), (3, .int (t1 + t0)), (4, .int (x4 + 1)), (5, .int x5), (6, .int x6), (7, .int (x7 + 1))] (List.forall_mem_cons.mpr ⟨rfl, (List.forall_mem_cons.mpr ⟨rfl, (List.forall_mem_cons.mpr ⟨rfl, (List.forall_mem_cons.mpr ⟨rfl, (List.forall_mem_cons.mpr ⟨rfl, (List.forall_mem_cons.mpr ⟨rfl, (List.forall_mem_cons.mpr ⟨rfl, (List.forall_mem_cons.mpr ⟨rfl, (fun _ h => nomatch h)⟩)⟩)⟩)⟩)⟩)⟩)⟩)⟩) h_6
theorem b_mo_beyond_151 {E : gp_E} {S : gp_S} {X : gp_H} {Q : Option Value → gp_H → Prop} {x1 : Int32} {x2 : Int32} {x3 : Int32} {x4 : Int32} {x5 : Int32} {x6 : Int32} {x7 : Int32} {x8 : Int32} {t0 : Int32} (hX : Lay S X)  (hh : Ev E m_mo_beyond 38 [(0, .ref 55), (1, .int x1), (2, .int x2), (3, .int x3), (4, .int (t0 + 0)), (5, .int x5), (6, .int x6), (7, .int (x7 + 1))] [] X (0, 0) Q) : Ev E m_mo_beyond 151 [(0, .ref 55), (1, .int x1), (2, .int x2), (3, .int x3), (4, .int x4), (5, .int x5), (6, .int x6), (7, .int x7), (8, .int x8)] [.int t0] X (0, 0) Q := by
  refine ev_iconst (v := 0) (pc := 151) d_mo_beyond_151 kc_i_0 ?_
  refine ev_iadd (pc := 152) d_mo_beyond_152 ?_
  refine ev_istore (L2 := [(0, .ref 55), (1, .int x1), (2, .int x2), (3, .int x3), (4, .int (t0 + 0)), (5, .int x5), (6, .int x6), (7, .int x7), (8, .int x8)]) (pc := 153) d_mo_beyond_153 rfl (Nat.le_of_ble_eq_true rfl) rfl ?_
  refine ev_iinc (v := (x7 + 1)) (L2 := [(0, .ref 55), (1, .int x1), (2, .int x2), (3, .int x3), (4, .int (t0 + 0)), (5, .int x5), (6, .int x6), (7, .int (x7 + 1)), (8, .int x8)]) (pc := 155) d_mo_beyond_155 rfl (by rw [kc_i_1]) rfl (Nat.le_of_ble_eq_true rfl) rfl ?_
  refine ev_goto (pc := 158) (tgt := 38) d_mo_beyond_158 (by decide) ?_
  exact ev_sub [(0, .ref 55), (1, .int x1), (2, .int x2), (3, .int x3), (4, .int (t0 + 0)), (5, .int x5), (6, .int x6), (7, .int (x7 + 1))] (List.forall_mem_cons.mpr ⟨rfl, (List.forall_mem_cons.mpr ⟨rfl, (List.forall_mem_cons.mpr ⟨rfl, (List.forall_mem_cons.mpr ⟨rfl, (List.forall_mem_cons.mpr ⟨rfl, (List.forall_mem_cons.mpr ⟨rfl, (List.forall_mem_cons.mpr ⟨rfl, (List.forall_mem_cons.mpr ⟨rfl, (fun _ h => nomatch h)⟩)⟩)⟩)⟩)⟩)⟩)⟩)⟩) hh
theorem b_mo_beyond_172 {E : gp_E} {S : gp_S} {X : gp_H} {Q : Option Value → gp_H → Prop} {x1 : Int32} {x2 : Int32} {x3 : Int32} {x4 : Int32} {x5 : Int32} {x6 : Int32} {x7 : Int64} {x9 : Int32} (hX : Lay S X)  (hh : ((x3 < x9 → Ev E m_mo_beyond 227 [(0, .ref 55), (1, .int x1), (2, .int x2), (3, .int x3), (4, .int x4), (5, .int x5), (6, .int x6), (7, .long x7), (9, .int x9)] [] X (0, 0) Q) ∧ (¬ x3 < x9 → ((x6 < x9 → Ev E m_mo_beyond 227 [(0, .ref 55), (1, .int x1), (2, .int x2), (3, .int x3), (4, .int x4), (5, .int x5), (6, .int x6), (7, .long x7), (9, .int x9)] [] X (0, 0) Q) ∧ (¬ x6 < x9 → (vp_in ((41 * x3) + x9) 1681 ∧ (vp_in (((41 * (x5 - x3)) + x6) - x9) 1681 ∧ Ev E m_mo_beyond 172 [(0, .ref 55), (1, .int x1), (2, .int x2), (3, .int x3), (4, .int x4), (5, .int x5), (6, .int x6), (7, .long (x7 + ((gL X 109 (Int32.toNatClampNeg ((41 * x3) + x9))) * (gL X 109 (Int32.toNatClampNeg (((41 * (x5 - x3)) + x6) - x9)))))), (9, .int (x9 + 1))] [] X (0, 0) Q))))))) : Ev E m_mo_beyond 172 [(0, .ref 55), (1, .int x1), (2, .int x2), (3, .int x3), (4, .int x4), (5, .int x5), (6, .int x6), (7, .long x7), (9, .int x9)] [] X (0, 0) Q := by
  refine ev_iload (x := x9) (pc := 172) d_mo_beyond_172 rfl ?_
  refine ev_iload_n (x := x3) (pc := 174) d_mo_beyond_174 rfl ?_
  refine ev_icmp_gt (pc := 175) (tgt := 227) d_mo_beyond_175 (by decide) (fun c_1 => ?_) (fun c_1 => ?_)
  · have h_2 := hh.1 c_1
    exact h_2
  · have h_3 := hh.2 c_1
    refine ev_iload (x := x9) (pc := 178) d_mo_beyond_178 rfl ?_
    refine ev_iload (x := x6) (pc := 180) d_mo_beyond_180 rfl ?_
    refine ev_icmp_gt (pc := 182) (tgt := 227) d_mo_beyond_182 (by decide) (fun c_4 => ?_) (fun c_4 => ?_)
    · have h_5 := h_3.1 c_4
      exact h_5
    · have h_6 := h_3.2 c_4
      refine ev_lload (x := x7) (pc := 185) d_mo_beyond_185 rfl ?_
      refine ev_aload_n (x := 55) (pc := 187) d_mo_beyond_187 rfl ?_
      refine ev_getR (pc := 188) d_mo_beyond_188 f_mo_177 (ly_at hX 55 rfl) gg_12 rfl (ly_rf hX 55 72 rfl) ?_
      refine ev_bipush (v := 41) (pc := 191) d_mo_beyond_191 kc_b_41 ?_
      refine ev_iload_n (x := x3) (pc := 193) d_mo_beyond_193 rfl ?_
      refine ev_imul (pc := 194) d_mo_beyond_194 ?_
      refine ev_iload (x := x9) (pc := 195) d_mo_beyond_195 rfl ?_
      refine ev_iadd (pc := 197) d_mo_beyond_197 ?_
      refine ev_laldJ (v := (gL X 109 (Int32.toNatClampNeg ((41 * x3) + x9)))) (pc := 198) d_mo_beyond_198 (ly_at hX 109 rfl) h_6.1 rfl ?_
      refine ev_aload_n (x := 55) (pc := 199) d_mo_beyond_199 rfl ?_
      refine ev_getR (pc := 200) d_mo_beyond_200 f_mo_177 (ly_at hX 55 rfl) gg_12 rfl (ly_rf hX 55 72 rfl) ?_
      refine ev_bipush (v := 41) (pc := 203) d_mo_beyond_203 kc_b_41 ?_
      refine ev_iload (x := x5) (pc := 205) d_mo_beyond_205 rfl ?_
      refine ev_iload_n (x := x3) (pc := 207) d_mo_beyond_207 rfl ?_
      refine ev_isub (pc := 208) d_mo_beyond_208 ?_
      refine ev_imul (pc := 209) d_mo_beyond_209 ?_
      refine ev_iload (x := x6) (pc := 210) d_mo_beyond_210 rfl ?_
      refine ev_iadd (pc := 212) d_mo_beyond_212 ?_
      refine ev_iload (x := x9) (pc := 213) d_mo_beyond_213 rfl ?_
      refine ev_isub (pc := 215) d_mo_beyond_215 ?_
      refine ev_laldJ (v := (gL X 109 (Int32.toNatClampNeg (((41 * (x5 - x3)) + x6) - x9)))) (pc := 216) d_mo_beyond_216 (ly_at hX 109 rfl) h_6.2.1 rfl ?_
      refine ev_lmul (pc := 217) d_mo_beyond_217 ?_
      refine ev_ladd (pc := 218) d_mo_beyond_218 ?_
      refine ev_lstore (L2 := [(0, .ref 55), (1, .int x1), (2, .int x2), (3, .int x3), (4, .int x4), (5, .int x5), (6, .int x6), (7, .long (x7 + ((gL X 109 (Int32.toNatClampNeg ((41 * x3) + x9))) * (gL X 109 (Int32.toNatClampNeg (((41 * (x5 - x3)) + x6) - x9)))))), (9, .int x9)]) (pc := 219) d_mo_beyond_219 rfl rfl (Nat.le_of_ble_eq_true rfl) rfl ?_
      refine ev_iinc (v := (x9 + 1)) (L2 := [(0, .ref 55), (1, .int x1), (2, .int x2), (3, .int x3), (4, .int x4), (5, .int x5), (6, .int x6), (7, .long (x7 + ((gL X 109 (Int32.toNatClampNeg ((41 * x3) + x9))) * (gL X 109 (Int32.toNatClampNeg (((41 * (x5 - x3)) + x6) - x9)))))), (9, .int (x9 + 1))]) (pc := 221) d_mo_beyond_221 rfl (by rw [kc_i_1]) rfl (Nat.le_of_ble_eq_true rfl) rfl ?_
      refine ev_goto (pc := 224) (tgt := 172) d_mo_beyond_224 (by decide) ?_
      exact h_6.2.2
theorem b_mo_beyond_227 {E : gp_E} {S : gp_S} {X : gp_H} {Q : Option Value → gp_H → Prop} {x1 : Int32} {x2 : Int32} {x3 : Int32} {x4 : Int32} {x5 : Int32} {x6 : Int32} {x7 : Int64} {x9 : Int32} (hX : Lay S X)  (hh : (vp_in ((41 * x5) + x6) 1681 ∧ ((0 ≤ (lg_cmp (x7 * 10000) ((Int32.toInt64 x2) * (gL X 109 (Int32.toNatClampNeg ((41 * x5) + x6))))) → Q (some (.int 0)) X) ∧ (¬ 0 ≤ (lg_cmp (x7 * 10000) ((Int32.toInt64 x2) * (gL X 109 (Int32.toNatClampNeg ((41 * x5) + x6))))) → Q (some (.int 1)) X)))) : Ev E m_mo_beyond 227 [(0, .ref 55), (1, .int x1), (2, .int x2), (3, .int x3), (4, .int x4), (5, .int x5), (6, .int x6), (7, .long x7), (9, .int x9)] [] X (0, 0) Q := by
  refine ev_lload (x := x7) (pc := 227) d_mo_beyond_227 rfl ?_
  refine ev_ldc2 (pc := 229) d_mo_beyond_229 k_mo_349 ?_
  refine ev_lmul (pc := 232) d_mo_beyond_232 ?_
  refine ev_iload_n (x := x2) (pc := 233) d_mo_beyond_233 rfl ?_
  refine ev_i2l (pc := 234) d_mo_beyond_234 ?_
  refine ev_aload_n (x := 55) (pc := 235) d_mo_beyond_235 rfl ?_
  refine ev_getR (pc := 236) d_mo_beyond_236 f_mo_177 (ly_at hX 55 rfl) gg_12 rfl (ly_rf hX 55 72 rfl) ?_
  refine ev_bipush (v := 41) (pc := 239) d_mo_beyond_239 kc_b_41 ?_
  refine ev_iload (x := x5) (pc := 241) d_mo_beyond_241 rfl ?_
  refine ev_imul (pc := 243) d_mo_beyond_243 ?_
  refine ev_iload (x := x6) (pc := 244) d_mo_beyond_244 rfl ?_
  refine ev_iadd (pc := 246) d_mo_beyond_246 ?_
  refine ev_laldJ (v := (gL X 109 (Int32.toNatClampNeg ((41 * x5) + x6)))) (pc := 247) d_mo_beyond_247 (ly_at hX 109 rfl) hh.1 rfl ?_
  refine ev_lmul (pc := 248) d_mo_beyond_248 ?_
  refine ev_lcmp (pc := 249) d_mo_beyond_249 ?_
  refine ev_if_ge (pc := 250) (tgt := 257) d_mo_beyond_250 (by decide) (fun c_1 => ?_) (fun c_1 => ?_)
  · have h_2 := hh.2.1 c_1
    refine ev_iconst (v := 0) (pc := 257) d_mo_beyond_257 kc_i_0 ?_
    exact ev_iret (pc := 258) ⟨Nat.le_of_ble_eq_true rfl, Nat.le_of_ble_eq_true rfl⟩ d_mo_beyond_258 rfl (vp_nar_int _) h_2
  · have h_3 := hh.2.2 c_1
    refine ev_iconst (v := 1) (pc := 253) d_mo_beyond_253 kc_i_1 ?_
    refine ev_goto (pc := 254) (tgt := 258) d_mo_beyond_254 (by decide) ?_
    exact ev_iret (pc := 258) ⟨Nat.le_of_ble_eq_true rfl, Nat.le_of_ble_eq_true rfl⟩ d_mo_beyond_258 rfl (vp_nar_int _) h_3
theorem b_mo_reckons_0 {E : gp_E} {S : gp_S} {X : gp_H} {Q : Option Value → gp_H → Prop}  (hX : Lay S X)  (hh : Ev E m_mo_reckons 2 [(0, .ref 55), (1, .int 0)] [] X (0, 0) Q) : Ev E m_mo_reckons 0 [(0, .ref 55)] [] X (0, 0) Q := by
  refine ev_iconst (v := 0) (pc := 0) d_mo_reckons_0 kc_i_0 ?_
  refine ev_istore_n (L2 := [(0, .ref 55), (1, .int 0)]) (pc := 1) d_mo_reckons_1 rfl (Nat.le_of_ble_eq_true rfl) rfl ?_
  exact hh
theorem b_mo_reckons_2 {E : gp_E} {S : gp_S} {X : gp_H} {Q : Option Value → gp_H → Prop} {x1 : Int32} (hX : Lay S X)  (hh : ((40 < x1 → Q none X) ∧ (¬ 40 < x1 → Ev E m_mo_reckons 10 [(0, .ref 55), (1, .int x1), (2, .int 0)] [] X (0, 0) Q))) : Ev E m_mo_reckons 2 [(0, .ref 55), (1, .int x1)] [] X (0, 0) Q := by
  refine ev_iload_n (x := x1) (pc := 2) d_mo_reckons_2 rfl ?_
  refine ev_bipush (v := 40) (pc := 3) d_mo_reckons_3 kc_b_40 ?_
  refine ev_icmp_gt (pc := 5) (tgt := 86) d_mo_reckons_5 (by decide) (fun c_1 => ?_) (fun c_1 => ?_)
  · have h_2 := hh.1 c_1
    exact ev_ret (pc := 86) ⟨Nat.le_of_ble_eq_true rfl, Nat.le_of_ble_eq_true rfl⟩ d_mo_reckons_86 rfl h_2
  · have h_3 := hh.2 c_1
    refine ev_iconst (v := 0) (pc := 8) d_mo_reckons_8 kc_i_0 ?_
    refine ev_istore_n (L2 := [(0, .ref 55), (1, .int x1), (2, .int 0)]) (pc := 9) d_mo_reckons_9 rfl (Nat.le_of_ble_eq_true rfl) rfl ?_
    exact h_3
theorem b_mo_reckons_10 {E : gp_E} {S : gp_S} {X : gp_H} {Q : Option Value → gp_H → Prop} {x1 : Int32} {x2 : Int32} (hX : Lay S X)  (hh : ((40 < x2 → Ev E m_mo_reckons 2 [(0, .ref 55), (1, .int (x1 + 1))] [] X (0, 0) Q) ∧ (¬ 40 < x2 → ((¬ x2 = 0 → ((¬ x1 = 0 → (vp_in ((((41 * x1) - 41) + x2) - 1) 1681 ∧ (vp_in (((41 * x1) - 41) + x2) 1681 ∧ (vp_in ((41 * x1) + x2) 1681 ∧ Ev E m_mo_reckons 10 [(0, .ref 55), (1, .int x1), (2, .int (x2 + 1))] [] (gp_sL X 109 (Int32.toNatClampNeg ((41 * x1) + x2)) ((gL X 109 (Int32.toNatClampNeg ((((41 * x1) - 41) + x2) - 1))) + (gL X 109 (Int32.toNatClampNeg (((41 * x1) - 41) + x2))))) (0, 0) Q)))) ∧ (x1 = 0 → (vp_in ((41 * x1) + x2) 1681 ∧ Ev E m_mo_reckons 10 [(0, .ref 55), (1, .int x1), (2, .int (x2 + 1))] [] (gp_sL X 109 (Int32.toNatClampNeg ((41 * x1) + x2)) 0) (0, 0) Q)))) ∧ (x2 = 0 → (vp_in ((41 * x1) + x2) 1681 ∧ Ev E m_mo_reckons 10 [(0, .ref 55), (1, .int x1), (2, .int (x2 + 1))] [] (gp_sL X 109 (Int32.toNatClampNeg ((41 * x1) + x2)) 1) (0, 0) Q)))))) : Ev E m_mo_reckons 10 [(0, .ref 55), (1, .int x1), (2, .int x2)] [] X (0, 0) Q := by
  refine ev_iload_n (x := x2) (pc := 10) d_mo_reckons_10 rfl ?_
  refine ev_bipush (v := 40) (pc := 11) d_mo_reckons_11 kc_b_40 ?_
  refine ev_icmp_gt (pc := 13) (tgt := 80) d_mo_reckons_13 (by decide) (fun c_1 => ?_) (fun c_1 => ?_)
  · have h_2 := hh.1 c_1
    refine ev_iinc (v := (x1 + 1)) (L2 := [(0, .ref 55), (1, .int (x1 + 1)), (2, .int x2)]) (pc := 80) d_mo_reckons_80 rfl (by rw [kc_i_1]) rfl (Nat.le_of_ble_eq_true rfl) rfl ?_
    refine ev_goto (pc := 83) (tgt := 2) d_mo_reckons_83 (by decide) ?_
    exact ev_sub [(0, .ref 55), (1, .int (x1 + 1))] (List.forall_mem_cons.mpr ⟨rfl, (List.forall_mem_cons.mpr ⟨rfl, (fun _ h => nomatch h)⟩)⟩) h_2
  · have h_3 := hh.2 c_1
    refine ev_aload_n (x := 55) (pc := 16) d_mo_reckons_16 rfl ?_
    refine ev_getR (pc := 17) d_mo_reckons_17 f_mo_177 (ly_at hX 55 rfl) gg_12 rfl (ly_rf hX 55 72 rfl) ?_
    refine ev_bipush (v := 41) (pc := 20) d_mo_reckons_20 kc_b_41 ?_
    refine ev_iload_n (x := x1) (pc := 22) d_mo_reckons_22 rfl ?_
    refine ev_imul (pc := 23) d_mo_reckons_23 ?_
    refine ev_iload_n (x := x2) (pc := 24) d_mo_reckons_24 rfl ?_
    refine ev_iadd (pc := 25) d_mo_reckons_25 ?_
    refine ev_iload_n (x := x2) (pc := 26) d_mo_reckons_26 rfl ?_
    refine ev_if_ne (pc := 27) (tgt := 34) d_mo_reckons_27 (by decide) (fun c_4 => ?_) (fun c_4 => ?_)
    · have h_5 := h_3.1 c_4
      refine ev_iload_n (x := x1) (pc := 34) d_mo_reckons_34 rfl ?_
      refine ev_if_ne (pc := 35) (tgt := 42) d_mo_reckons_35 (by decide) (fun c_7 => ?_) (fun c_7 => ?_)
      · have h_8 := h_5.1 c_7
        refine ev_aload_n (x := 55) (pc := 42) d_mo_reckons_42 rfl ?_
        refine ev_getR (pc := 43) d_mo_reckons_43 f_mo_177 (ly_at hX 55 rfl) gg_12 rfl (ly_rf hX 55 72 rfl) ?_
        refine ev_bipush (v := 41) (pc := 46) d_mo_reckons_46 kc_b_41 ?_
        refine ev_iload_n (x := x1) (pc := 48) d_mo_reckons_48 rfl ?_
        refine ev_imul (pc := 49) d_mo_reckons_49 ?_
        refine ev_bipush (v := 41) (pc := 50) d_mo_reckons_50 kc_b_41 ?_
        refine ev_isub (pc := 52) d_mo_reckons_52 ?_
        refine ev_iload_n (x := x2) (pc := 53) d_mo_reckons_53 rfl ?_
        refine ev_iadd (pc := 54) d_mo_reckons_54 ?_
        refine ev_iconst (v := 1) (pc := 55) d_mo_reckons_55 kc_i_1 ?_
        refine ev_isub (pc := 56) d_mo_reckons_56 ?_
        refine ev_laldJ (v := (gL X 109 (Int32.toNatClampNeg ((((41 * x1) - 41) + x2) - 1)))) (pc := 57) d_mo_reckons_57 (ly_at hX 109 rfl) h_8.1 rfl ?_
        refine ev_aload_n (x := 55) (pc := 58) d_mo_reckons_58 rfl ?_
        refine ev_getR (pc := 59) d_mo_reckons_59 f_mo_177 (ly_at hX 55 rfl) gg_12 rfl (ly_rf hX 55 72 rfl) ?_
        refine ev_bipush (v := 41) (pc := 62) d_mo_reckons_62 kc_b_41 ?_
        refine ev_iload_n (x := x1) (pc := 64) d_mo_reckons_64 rfl ?_
        refine ev_imul (pc := 65) d_mo_reckons_65 ?_
        refine ev_bipush (v := 41) (pc := 66) d_mo_reckons_66 kc_b_41 ?_
        refine ev_isub (pc := 68) d_mo_reckons_68 ?_
        refine ev_iload_n (x := x2) (pc := 69) d_mo_reckons_69 rfl ?_
        refine ev_iadd (pc := 70) d_mo_reckons_70 ?_
        refine ev_laldJ (v := (gL X 109 (Int32.toNatClampNeg (((41 * x1) - 41) + x2)))) (pc := 71) d_mo_reckons_71 (ly_at hX 109 rfl) h_8.2.1 rfl ?_
        refine ev_ladd (pc := 72) d_mo_reckons_72 ?_
        refine ev_last (pc := 73) d_mo_reckons_73 (ly_at hX 109 rfl) h_8.2.2.1 ?_
        refine ev_iinc (v := (x2 + 1)) (L2 := [(0, .ref 55), (1, .int x1), (2, .int (x2 + 1))]) (pc := 74) d_mo_reckons_74 rfl (by rw [kc_i_1]) rfl (Nat.le_of_ble_eq_true rfl) rfl ?_
        refine ev_goto (pc := 77) (tgt := 10) d_mo_reckons_77 (by decide) ?_
        exact h_8.2.2.2
      · have h_9 := h_5.2 c_7
        refine ev_lconst (v := 0) (pc := 38) d_mo_reckons_38 rfl ?_
        refine ev_goto (pc := 39) (tgt := 73) d_mo_reckons_39 (by decide) ?_
        refine ev_last (pc := 73) d_mo_reckons_73 (ly_at hX 109 rfl) h_9.1 ?_
        refine ev_iinc (v := (x2 + 1)) (L2 := [(0, .ref 55), (1, .int x1), (2, .int (x2 + 1))]) (pc := 74) d_mo_reckons_74 rfl (by rw [kc_i_1]) rfl (Nat.le_of_ble_eq_true rfl) rfl ?_
        refine ev_goto (pc := 77) (tgt := 10) d_mo_reckons_77 (by decide) ?_
        exact h_9.2
    · have h_6 := h_3.2 c_4
      refine ev_lconst (v := 1) (pc := 30) d_mo_reckons_30 rfl ?_
      refine ev_goto (pc := 31) (tgt := 73) d_mo_reckons_31 (by decide) ?_
      refine ev_last (pc := 73) d_mo_reckons_73 (ly_at hX 109 rfl) h_6.1 ?_
      refine ev_iinc (v := (x2 + 1)) (L2 := [(0, .ref 55), (1, .int x1), (2, .int (x2 + 1))]) (pc := 74) d_mo_reckons_74 rfl (by rw [kc_i_1]) rfl (Nat.le_of_ble_eq_true rfl) rfl ?_
      refine ev_goto (pc := 77) (tgt := 10) d_mo_reckons_77 (by decide) ?_
      exact h_6.2
theorem b_mo_feed_0 {E : gp_E} {S : gp_S} {X : gp_H} {Q : Option Value → gp_H → Prop} {x1 : Int32} {x2 : Int32} (hX : Lay S X)  (hh : (((iw x2 0 4) = true → ((((gI X 55 64) + x2) ≤ 60 → Ev E m_mo_feed 30 [(0, .ref 55), (1, .int x1), (2, .int x2), (3, .int (x2 - 1))] [] X (0, 0) Q) ∧ (¬ ((gI X 55 64) + x2) ≤ 60 → Q (some (.int (-4))) X))) ∧ ((iw x2 0 4) = false → Q (some (.int (-2))) X))) : Ev E m_mo_feed 0 [(0, .ref 55), (1, .int x1), (2, .int x2)] [] X (0, 0) Q := by
  refine ev_iload_n (x := x2) (pc := 0) d_mo_feed_0 rfl ?_
  refine ev_iconst (v := 0) (pc := 1) d_mo_feed_1 kc_i_0 ?_
  refine ev_iconst (v := 4) (pc := 2) d_mo_feed_2 kc_i_4 ?_
  refine ev_callS (z := m_mo_in) (as := [.int x2, .int 0, .int 4]) (rest := []) (pc := 3) d_mo_feed_3 l_mo_196 i_mo_in o_mo_in rfl rfl (Nat.le_of_ble_eq_true rfl) rfl (Nat.le_of_ble_eq_true rfl) ⟨Nat.le_of_ble_eq_true rfl, Nat.le_of_ble_eq_true rfl⟩ (s_mo_in hX x2 0 4) (fun r X1 hq => ?_)
  obtain ⟨rfl, rfl⟩ := hq
  show Ev E m_mo_feed 6 [(0, .ref 55), (1, .int x1), (2, .int x2)] [.int (bz (iw x2 0 4))] X (0, 0) Q
  refine ev_ifz_ne (pc := 6) (tgt := 12) d_mo_feed_6 (by decide) (fun c_1 => ?_) (fun c_1 => ?_)
  · have h_2 := hh.1 c_1
    refine ev_aload_n (x := 55) (pc := 12) d_mo_feed_12 rfl ?_
    refine ev_getJ (v := (gI X 55 64)) (pc := 13) d_mo_feed_13 f_mo_351 (ly_at hX 55 rfl) gg_12 rfl rfl ?_
    refine ev_iload_n (x := x2) (pc := 16) d_mo_feed_16 rfl ?_
    refine ev_iadd (pc := 17) d_mo_feed_17 ?_
    refine ev_bipush (v := 60) (pc := 18) d_mo_feed_18 kc_b_60 ?_
    refine ev_icmp_le (pc := 20) (tgt := 26) d_mo_feed_20 (by decide) (fun c_4 => ?_) (fun c_4 => ?_)
    · have h_5 := h_2.1 c_4
      refine ev_iload_n (x := x2) (pc := 26) d_mo_feed_26 rfl ?_
      refine ev_iconst (v := 1) (pc := 27) d_mo_feed_27 kc_i_1 ?_
      refine ev_isub (pc := 28) d_mo_feed_28 ?_
      refine ev_istore_n (L2 := [(0, .ref 55), (1, .int x1), (2, .int x2), (3, .int (x2 - 1))]) (pc := 29) d_mo_feed_29 rfl (Nat.le_of_ble_eq_true rfl) rfl ?_
      exact h_5
    · have h_6 := h_2.2 c_4
      refine ev_bipush (v := (-4)) (pc := 23) d_mo_feed_23 kc_b_m4 ?_
      exact ev_iret (pc := 25) ⟨Nat.le_of_ble_eq_true rfl, Nat.le_of_ble_eq_true rfl⟩ d_mo_feed_25 rfl (vp_nar_int _) h_6
  · have h_3 := hh.2 c_1
    refine ev_bipush (v := (-2)) (pc := 9) d_mo_feed_9 kc_b_m2 ?_
    exact ev_iret (pc := 11) ⟨Nat.le_of_ble_eq_true rfl, Nat.le_of_ble_eq_true rfl⟩ d_mo_feed_11 rfl (vp_nar_int _) h_3
theorem b_mo_feed_30 {E : gp_E} {S : gp_S} {X : gp_H} {Q : Option Value → gp_H → Prop} {x1 : Int32} {x2 : Int32} {x3 : Int32} (hX : Lay S X)  (hh : ((x3 < 0 → Q (some (.int (gI X 55 64))) X) ∧ (¬ x3 < 0 → (vp_in (gI X 55 64) 60 ∧ Ev E m_mo_feed 30 [(0, .ref 55), (1, .int x1), (2, .int x2), (3, .int (x3 + (-1)))] [] (gp_sI (gp_sI X 102 (Int32.toNatClampNeg (gI X 55 64)) ((x1 >>> ((8 * x3) &&& 31)) &&& 255)) 55 64 ((gI X 55 64) + 1)) (0, 0) Q)))) : Ev E m_mo_feed 30 [(0, .ref 55), (1, .int x1), (2, .int x2), (3, .int x3)] [] X (0, 0) Q := by
  refine ev_iload_n (x := x3) (pc := 30) d_mo_feed_30 rfl ?_
  refine ev_if_lt (pc := 31) (tgt := 69) d_mo_feed_31 (by decide) (fun c_1 => ?_) (fun c_1 => ?_)
  · have h_2 := hh.1 c_1
    refine ev_aload_n (x := 55) (pc := 69) d_mo_feed_69 rfl ?_
    refine ev_getJ (v := (gI X 55 64)) (pc := 70) d_mo_feed_70 f_mo_351 (ly_at hX 55 rfl) gg_12 rfl rfl ?_
    exact ev_iret (pc := 73) ⟨Nat.le_of_ble_eq_true rfl, Nat.le_of_ble_eq_true rfl⟩ d_mo_feed_73 rfl (vp_nar_int _) h_2
  · have h_3 := hh.2 c_1
    refine ev_aload_n (x := 55) (pc := 34) d_mo_feed_34 rfl ?_
    refine ev_getR (pc := 35) d_mo_feed_35 f_mo_156 (ly_at hX 55 rfl) gg_12 rfl (ly_rf hX 55 63 rfl) ?_
    refine ev_aload_n (x := 55) (pc := 38) d_mo_feed_38 rfl ?_
    refine ev_getJ (v := (gI X 55 64)) (pc := 39) d_mo_feed_39 f_mo_351 (ly_at hX 55 rfl) gg_12 rfl rfl ?_
    refine ev_iload_n (x := x1) (pc := 42) d_mo_feed_42 rfl ?_
    refine ev_bipush (v := 8) (pc := 43) d_mo_feed_43 kc_b_8 ?_
    refine ev_iload_n (x := x3) (pc := 45) d_mo_feed_45 rfl ?_
    refine ev_imul (pc := 46) d_mo_feed_46 ?_
    refine ev_ishr (pc := 47) d_mo_feed_47 ?_
    refine ev_sipush (v := 255) (pc := 48) d_mo_feed_48 kc_s_255 ?_
    refine ev_iand (pc := 51) d_mo_feed_51 ?_
    refine ev_iast (pc := 52) d_mo_feed_52 (ly_at hX 102 rfl) h_3.1 ?_
    refine ev_aload_n (x := 55) (pc := 53) d_mo_feed_53 rfl ?_
    refine ev_dup (pc := 54) d_mo_feed_54 rfl ?_
    refine ev_getJ (v := (gI X 55 64)) (pc := 55) d_mo_feed_55 f_mo_351 (ly_at (ly_sI hX) 55 rfl) gg_12 rfl rfl ?_
    refine ev_iconst (v := 1) (pc := 58) d_mo_feed_58 kc_i_1 ?_
    refine ev_iadd (pc := 59) d_mo_feed_59 ?_
    refine ev_putI (pc := 60) d_mo_feed_60 f_mo_351 (ly_at (ly_sI hX) 55 rfl) gg_12 rfl (Or.inl rfl) (vp_nar_int _) rfl ?_
    refine ev_iinc (v := (x3 + (-1))) (L2 := [(0, .ref 55), (1, .int x1), (2, .int x2), (3, .int (x3 + (-1)))]) (pc := 63) d_mo_feed_63 rfl (by rw [kc_i_m1]) rfl (Nat.le_of_ble_eq_true rfl) rfl ?_
    refine ev_goto (pc := 66) (tgt := 30) d_mo_feed_66 (by decide) ?_
    exact h_3.2
theorem b_mo_law_0 {E : gp_E} {S : gp_S} {X : gp_H} {Q : Option Value → gp_H → Prop}  (hX : Lay S X)  (hh : ((¬ (gI X 55 57) = 10 → (∃ Qz_4, Ev E m_mo_byteAt 0 [(0, .ref 55), (1, .int 0)] [] (gp_sI (gp_sI X 55 73 0) 55 74 0) (0, 0) Qz_4 ∧ ∀ r X_7, Qz_4 r X_7 → ∃ v_12 : Int32, r = some (.int v_12) ∧ Lay S X_7 ∧ ((v_12 = 112 → Ev E m_mo_law 40 [(0, .ref 55), (1, .int 0), (2, .int 0)] [] X_7 (0, 0) Q) ∧ (¬ v_12 = 112 → Ev E m_mo_law 40 [(0, .ref 55), (1, .int 1), (2, .int 0)] [] X_7 (0, 0) Q)))) ∧ ((gI X 55 57) = 10 → Q (some (.int (-4))) X))) : Ev E m_mo_law 0 [(0, .ref 55)] [] X (0, 0) Q := by
  refine ev_aload_n (x := 55) (pc := 0) d_mo_law_0 rfl ?_
  refine ev_getJ (v := (gI X 55 57)) (pc := 1) d_mo_law_1 f_mo_283 (ly_at hX 55 rfl) gg_12 rfl rfl ?_
  refine ev_bipush (v := 10) (pc := 4) d_mo_law_4 kc_b_10 ?_
  refine ev_icmp_ne (pc := 6) (tgt := 12) d_mo_law_6 (by decide) (fun c_1 => ?_) (fun c_1 => ?_)
  · have h_2 := hh.1 c_1
    refine ev_aload_n (x := 55) (pc := 12) d_mo_law_12 rfl ?_
    refine ev_iconst (v := 0) (pc := 13) d_mo_law_13 kc_i_0 ?_
    refine ev_putI (pc := 14) d_mo_law_14 f_mo_354 (ly_at hX 55 rfl) gg_12 rfl (Or.inl rfl) (vp_nar_int _) rfl ?_
    refine ev_aload_n (x := 55) (pc := 17) d_mo_law_17 rfl ?_
    refine ev_iconst (v := 0) (pc := 18) d_mo_law_18 kc_i_0 ?_
    refine ev_putI (pc := 19) d_mo_law_19 f_mo_360 (ly_at (ly_sI hX) 55 rfl) gg_12 rfl (Or.inl rfl) nb_0 fb_0 ?_
    refine ev_aload_n (x := 55) (pc := 22) d_mo_law_22 rfl ?_
    refine ev_iconst (v := 0) (pc := 23) d_mo_law_23 kc_i_0 ?_
    obtain ⟨Qz_4, hc_5, hk_6⟩ := h_2
    refine ev_callV (z := m_mo_byteAt) (as := [.int 0]) (rest := []) (pc := 24) d_mo_law_24 (ly_at (ly_sI (ly_sI hX)) 55 rfl) lt13_12 rfl l_mo_357 i_mo_byteAt v_mo_byteAt o_mo_byteAt rfl rfl (Nat.le_of_ble_eq_true rfl) rfl (Nat.le_of_ble_eq_true rfl) ⟨Nat.le_of_ble_eq_true rfl, Nat.le_of_ble_eq_true rfl⟩ hc_5 (fun r_8 X_7 hq_9 => ?_)
    obtain ⟨v_12, rfl, hX_11, h_10⟩ := hk_6 _ _ hq_9
    show Ev E m_mo_law 27 [(0, .ref 55)] [.int v_12] X_7 (0, 0) Q
    refine ev_bipush (v := 112) (pc := 27) d_mo_law_27 kc_b_112 ?_
    refine ev_icmp_eq (pc := 29) (tgt := 36) d_mo_law_29 (by decide) (fun c_13 => ?_) (fun c_13 => ?_)
    · have h_14 := h_10.1 c_13
      refine ev_iconst (v := 0) (pc := 36) d_mo_law_36 kc_i_0 ?_
      refine ev_istore_n (L2 := [(0, .ref 55), (1, .int 0)]) (pc := 37) d_mo_law_37 rfl (Nat.le_of_ble_eq_true rfl) rfl ?_
      refine ev_iconst (v := 0) (pc := 38) d_mo_law_38 kc_i_0 ?_
      refine ev_istore_n (L2 := [(0, .ref 55), (1, .int 0), (2, .int 0)]) (pc := 39) d_mo_law_39 rfl (Nat.le_of_ble_eq_true rfl) rfl ?_
      exact h_14
    · have h_15 := h_10.2 c_13
      refine ev_iconst (v := 1) (pc := 32) d_mo_law_32 kc_i_1 ?_
      refine ev_goto (pc := 33) (tgt := 37) d_mo_law_33 (by decide) ?_
      refine ev_istore_n (L2 := [(0, .ref 55), (1, .int 1)]) (pc := 37) d_mo_law_37 rfl (Nat.le_of_ble_eq_true rfl) rfl ?_
      refine ev_iconst (v := 0) (pc := 38) d_mo_law_38 kc_i_0 ?_
      refine ev_istore_n (L2 := [(0, .ref 55), (1, .int 1), (2, .int 0)]) (pc := 39) d_mo_law_39 rfl (Nat.le_of_ble_eq_true rfl) rfl ?_
      exact h_15
  · have h_3 := hh.2 c_1
    refine ev_bipush (v := (-4)) (pc := 9) d_mo_law_9 kc_b_m4 ?_
    exact ev_iret (pc := 11) ⟨Nat.le_of_ble_eq_true rfl, Nat.le_of_ble_eq_true rfl⟩ d_mo_law_11 rfl (vp_nar_int _) h_3
theorem b_mo_law_40 {E : gp_E} {S : gp_S} {X : gp_H} {Q : Option Value → gp_H → Prop} {x1 : Int32} {x2 : Int32} (hX : Lay S X)  (hh : ((x1 = 0 → Ev E m_mo_law 52 [(0, .ref 55), (1, .int x1), (2, .int x2)] [.int 25, .int x2] X (0, 0) Q) ∧ (¬ x1 = 0 → Ev E m_mo_law 52 [(0, .ref 55), (1, .int x1), (2, .int x2)] [.int 24, .int x2] X (0, 0) Q))) : Ev E m_mo_law 40 [(0, .ref 55), (1, .int x1), (2, .int x2)] [] X (0, 0) Q := by
  refine ev_iload_n (x := x2) (pc := 40) d_mo_law_40 rfl ?_
  refine ev_iload_n (x := x1) (pc := 41) d_mo_law_41 rfl ?_
  refine ev_if_eq (pc := 42) (tgt := 50) d_mo_law_42 (by decide) (fun c_1 => ?_) (fun c_1 => ?_)
  · have h_2 := hh.1 c_1
    refine ev_bipush (v := 25) (pc := 50) d_mo_law_50 kc_b_25 ?_
    exact h_2
  · have h_3 := hh.2 c_1
    refine ev_bipush (v := 24) (pc := 45) d_mo_law_45 kc_b_24 ?_
    refine ev_goto (pc := 47) (tgt := 52) d_mo_law_47 (by decide) ?_
    exact h_3
theorem b_mo_law_52 {E : gp_E} {S : gp_S} {X : gp_H} {Q : Option Value → gp_H → Prop} {x1 : Int32} {x2 : Int32} {t0 : Int32} {t1 : Int32} (hX : Lay S X)  (hh : ((t0 ≤ t1 → Ev E m_mo_law 91 [(0, .ref 55), (1, .int x1), (2, .int x2)] [] X (0, 0) Q) ∧ (¬ t0 ≤ t1 → ((¬ (gI X 55 74) = 0 → Ev E m_mo_law 91 [(0, .ref 55), (1, .int x1), (2, .int x2)] [] X (0, 0) Q) ∧ ((gI X 55 74) = 0 → ((x1 = 0 → (vp_in x2 25 ∧ (∃ Qz_10, Ev E m_mo_reads 0 [(0, .ref 55), (1, .int (gI X 111 (Int32.toNatClampNeg x2)))] [] X (0, 0) Qz_10 ∧ ∀ r X_13, Qz_10 r X_13 → (r = none ∧ Lay S X_13 ∧ Ev E m_mo_law 40 [(0, .ref 55), (1, .int x1), (2, .int (x2 + 1))] [] X_13 (0, 0) Q)))) ∧ (¬ x1 = 0 → (vp_in x2 24 ∧ (∃ Qz_18, Ev E m_mo_reads 0 [(0, .ref 55), (1, .int (gI X 110 (Int32.toNatClampNeg x2)))] [] X (0, 0) Qz_18 ∧ ∀ r X_21, Qz_18 r X_21 → (r = none ∧ Lay S X_21 ∧ Ev E m_mo_law 40 [(0, .ref 55), (1, .int x1), (2, .int (x2 + 1))] [] X_21 (0, 0) Q)))))))))) : Ev E m_mo_law 52 [(0, .ref 55), (1, .int x1), (2, .int x2)] [.int t0, .int t1] X (0, 0) Q := by
  refine ev_icmp_ge (pc := 52) (tgt := 91) d_mo_law_52 (by decide) (fun c_1 => ?_) (fun c_1 => ?_)
  · have h_2 := hh.1 c_1
    exact h_2
  · have h_3 := hh.2 c_1
    refine ev_aload_n (x := 55) (pc := 55) d_mo_law_55 rfl ?_
    refine ev_getJ (v := (gI X 55 74)) (pc := 56) d_mo_law_56 f_mo_360 (ly_at hX 55 rfl) gg_12 rfl rfl ?_
    refine ev_if_ne (pc := 59) (tgt := 91) d_mo_law_59 (by decide) (fun c_4 => ?_) (fun c_4 => ?_)
    · have h_5 := h_3.1 c_4
      exact h_5
    · have h_6 := h_3.2 c_4
      refine ev_aload_n (x := 55) (pc := 62) d_mo_law_62 rfl ?_
      refine ev_iload_n (x := x1) (pc := 63) d_mo_law_63 rfl ?_
      refine ev_if_eq (pc := 64) (tgt := 76) d_mo_law_64 (by decide) (fun c_7 => ?_) (fun c_7 => ?_)
      · have h_8 := h_6.1 c_7
        refine ev_aload_n (x := 55) (pc := 76) d_mo_law_76 rfl ?_
        refine ev_getR (pc := 77) d_mo_law_77 f_mo_184 (ly_at hX 55 rfl) gg_12 rfl (ly_rf hX 55 76 rfl) ?_
        refine ev_iload_n (x := x2) (pc := 80) d_mo_law_80 rfl ?_
        refine ev_ialdJ (v := (gI X 111 (Int32.toNatClampNeg x2))) (pc := 81) d_mo_law_81 (ly_at hX 111 rfl) h_8.1 rfl ?_
        obtain ⟨Qz_10, hc_11, hk_12⟩ := h_8.2
        refine ev_callV (z := m_mo_reads) (as := [.int (gI X 111 (Int32.toNatClampNeg x2))]) (rest := []) (pc := 82) d_mo_law_82 (ly_at hX 55 rfl) lt13_12 rfl l_mo_367 i_mo_reads v_mo_reads o_mo_reads rfl rfl (Nat.le_of_ble_eq_true rfl) rfl (Nat.le_of_ble_eq_true rfl) ⟨Nat.le_of_ble_eq_true rfl, Nat.le_of_ble_eq_true rfl⟩ hc_11 (fun r_14 X_13 hq_15 => ?_)
        obtain ⟨rfl, hX_17, h_16⟩ := hk_12 _ _ hq_15
        show Ev E m_mo_law 85 [(0, .ref 55), (1, .int x1), (2, .int x2)] [] X_13 (0, 0) Q
        refine ev_iinc (v := (x2 + 1)) (L2 := [(0, .ref 55), (1, .int x1), (2, .int (x2 + 1))]) (pc := 85) d_mo_law_85 rfl (by rw [kc_i_1]) rfl (Nat.le_of_ble_eq_true rfl) rfl ?_
        refine ev_goto (pc := 88) (tgt := 40) d_mo_law_88 (by decide) ?_
        exact h_16
      · have h_9 := h_6.2 c_7
        refine ev_aload_n (x := 55) (pc := 67) d_mo_law_67 rfl ?_
        refine ev_getR (pc := 68) d_mo_law_68 f_mo_181 (ly_at hX 55 rfl) gg_12 rfl (ly_rf hX 55 75 rfl) ?_
        refine ev_iload_n (x := x2) (pc := 71) d_mo_law_71 rfl ?_
        refine ev_ialdJ (v := (gI X 110 (Int32.toNatClampNeg x2))) (pc := 72) d_mo_law_72 (ly_at hX 110 rfl) h_9.1 rfl ?_
        refine ev_goto (pc := 73) (tgt := 82) d_mo_law_73 (by decide) ?_
        obtain ⟨Qz_18, hc_19, hk_20⟩ := h_9.2
        refine ev_callV (z := m_mo_reads) (as := [.int (gI X 110 (Int32.toNatClampNeg x2))]) (rest := []) (pc := 82) d_mo_law_82 (ly_at hX 55 rfl) lt13_12 rfl l_mo_367 i_mo_reads v_mo_reads o_mo_reads rfl rfl (Nat.le_of_ble_eq_true rfl) rfl (Nat.le_of_ble_eq_true rfl) ⟨Nat.le_of_ble_eq_true rfl, Nat.le_of_ble_eq_true rfl⟩ hc_19 (fun r_22 X_21 hq_23 => ?_)
        obtain ⟨rfl, hX_25, h_24⟩ := hk_20 _ _ hq_23
        show Ev E m_mo_law 85 [(0, .ref 55), (1, .int x1), (2, .int x2)] [] X_21 (0, 0) Q
        refine ev_iinc (v := (x2 + 1)) (L2 := [(0, .ref 55), (1, .int x1), (2, .int (x2 + 1))]) (pc := 85) d_mo_law_85 rfl (by rw [kc_i_1]) rfl (Nat.le_of_ble_eq_true rfl) rfl ?_
        refine ev_goto (pc := 88) (tgt := 40) d_mo_law_88 (by decide) ?_
        exact h_24
theorem b_mo_law_91 {E : gp_E} {S : gp_S} {X : gp_H} {Q : Option Value → gp_H → Prop} {x1 : Int32} {x2 : Int32} (hX : Lay S X)  (hh : ((¬ (gI X 55 74) = 0 → Ev E m_mo_law 113 [(0, .ref 55), (1, .int x1), (2, .int x2)] [] X (0, 0) Q) ∧ ((gI X 55 74) = 0 → ((¬ (gI X 55 73) = (gI X 55 64) → Ev E m_mo_law 113 [(0, .ref 55), (1, .int x1), (2, .int x2)] [] X (0, 0) Q) ∧ ((gI X 55 73) = (gI X 55 64) → Ev E m_mo_law 114 [(0, .ref 55), (1, .int x1), (2, .int x2)] [.int 1] X (0, 0) Q))))) : Ev E m_mo_law 91 [(0, .ref 55), (1, .int x1), (2, .int x2)] [] X (0, 0) Q := by
  refine ev_aload_n (x := 55) (pc := 91) d_mo_law_91 rfl ?_
  refine ev_getJ (v := (gI X 55 74)) (pc := 92) d_mo_law_92 f_mo_360 (ly_at hX 55 rfl) gg_12 rfl rfl ?_
  refine ev_if_ne (pc := 95) (tgt := 113) d_mo_law_95 (by decide) (fun c_1 => ?_) (fun c_1 => ?_)
  · have h_2 := hh.1 c_1
    exact h_2
  · have h_3 := hh.2 c_1
    refine ev_aload_n (x := 55) (pc := 98) d_mo_law_98 rfl ?_
    refine ev_getJ (v := (gI X 55 73)) (pc := 99) d_mo_law_99 f_mo_354 (ly_at hX 55 rfl) gg_12 rfl rfl ?_
    refine ev_aload_n (x := 55) (pc := 102) d_mo_law_102 rfl ?_
    refine ev_getJ (v := (gI X 55 64)) (pc := 103) d_mo_law_103 f_mo_351 (ly_at hX 55 rfl) gg_12 rfl rfl ?_
    refine ev_icmp_ne (pc := 106) (tgt := 113) d_mo_law_106 (by decide) (fun c_4 => ?_) (fun c_4 => ?_)
    · have h_5 := h_3.1 c_4
      exact h_5
    · have h_6 := h_3.2 c_4
      refine ev_iconst (v := 1) (pc := 109) d_mo_law_109 kc_i_1 ?_
      refine ev_goto (pc := 110) (tgt := 114) d_mo_law_110 (by decide) ?_
      exact h_6
theorem b_mo_law_113 {E : gp_E} {S : gp_S} {X : gp_H} {Q : Option Value → gp_H → Prop} {x1 : Int32} {x2 : Int32} (hX : Lay S X)  (hh : Ev E m_mo_law 114 [(0, .ref 55), (1, .int x1), (2, .int x2)] [.int 0] X (0, 0) Q) : Ev E m_mo_law 113 [(0, .ref 55), (1, .int x1), (2, .int x2)] [] X (0, 0) Q := by
  refine ev_iconst (v := 0) (pc := 113) d_mo_law_113 kc_i_0 ?_
  exact hh
theorem b_mo_law_114 {E : gp_E} {S : gp_S} {X : gp_H} {Q : Option Value → gp_H → Prop} {x1 : Int32} {x2 : Int32} {t0 : Int32} (hX : Lay S X)  (hh : ((¬ t0 = 0 → (vp_in (gI X 55 57) 10 ∧ (narrow .boolean (.int x1) = .int x1 ∧ (vp_in 0 4 ∧ (vp_in 1 4 ∧ (vp_in 2 4 ∧ (vp_in 3 4 ∧ Q (some (.int (((gI X 55 57) + 1) - 1))) (gp_sI (gp_sI (gp_sI (gp_sI (gp_sI (gp_sI (gp_sI X 55 64 0) 101 (Int32.toNatClampNeg (gI X 55 57)) x1) 97 (Int32.toNatClampNeg (gI X 55 57)) (gI X 112 (Int32.toNatClampNeg 0))) 98 (Int32.toNatClampNeg (gI X 55 57)) (gI X 112 (Int32.toNatClampNeg 1))) 99 (Int32.toNatClampNeg (gI X 55 57)) (gI X 112 (Int32.toNatClampNeg 2))) 100 (Int32.toNatClampNeg (gI X 55 57)) (gI X 112 (Int32.toNatClampNeg 3))) 55 57 ((gI X 55 57) + 1))))))))) ∧ (t0 = 0 → Q (some (.int ((-10) - (gI X 55 73)))) (gp_sI X 55 64 0)))) : Ev E m_mo_law 114 [(0, .ref 55), (1, .int x1), (2, .int x2)] [.int t0] X (0, 0) Q := by
  refine ev_istore_n (L2 := [(0, .ref 55), (1, .int x1), (2, .int t0)]) (pc := 114) d_mo_law_114 rfl (Nat.le_of_ble_eq_true rfl) rfl ?_
  refine ev_aload_n (x := 55) (pc := 115) d_mo_law_115 rfl ?_
  refine ev_iconst (v := 0) (pc := 116) d_mo_law_116 kc_i_0 ?_
  refine ev_putI (pc := 117) d_mo_law_117 f_mo_351 (ly_at hX 55 rfl) gg_12 rfl (Or.inl rfl) (vp_nar_int _) rfl ?_
  refine ev_iload_n (x := t0) (pc := 120) d_mo_law_120 rfl ?_
  refine ev_if_ne (pc := 121) (tgt := 132) d_mo_law_121 (by decide) (fun c_1 => ?_) (fun c_1 => ?_)
  · have h_2 := hh.1 c_1
    refine ev_aload_n (x := 55) (pc := 132) d_mo_law_132 rfl ?_
    refine ev_getR (pc := 133) d_mo_law_133 f_mo_153 (ly_at (ly_sI hX) 55 rfl) gg_12 rfl (ly_rf (ly_sI hX) 55 62 rfl) ?_
    refine ev_aload_n (x := 55) (pc := 136) d_mo_law_136 rfl ?_
    refine ev_getJ (v := (gI X 55 57)) (pc := 137) d_mo_law_137 f_mo_283 (ly_at (ly_sI hX) 55 rfl) gg_12 rfl rfl ?_
    refine ev_iload_n (x := x1) (pc := 140) d_mo_law_140 rfl ?_
    refine ev_zast (pc := 141) d_mo_law_141 (ly_at (ly_sI hX) 101 rfl) h_2.1 h_2.2.1 ?_
    refine ev_aload_n (x := 55) (pc := 142) d_mo_law_142 rfl ?_
    refine ev_getR (pc := 143) d_mo_law_143 f_mo_141 (ly_at (ly_sI (ly_sI hX)) 55 rfl) gg_12 rfl (ly_rf (ly_sI (ly_sI hX)) 55 58 rfl) ?_
    refine ev_aload_n (x := 55) (pc := 146) d_mo_law_146 rfl ?_
    refine ev_getJ (v := (gI X 55 57)) (pc := 147) d_mo_law_147 f_mo_283 (ly_at (ly_sI (ly_sI hX)) 55 rfl) gg_12 rfl rfl ?_
    refine ev_aload_n (x := 55) (pc := 150) d_mo_law_150 rfl ?_
    refine ev_getR (pc := 151) d_mo_law_151 f_mo_187 (ly_at (ly_sI (ly_sI hX)) 55 rfl) gg_12 rfl (ly_rf (ly_sI (ly_sI hX)) 55 77 rfl) ?_
    refine ev_iconst (v := 0) (pc := 154) d_mo_law_154 kc_i_0 ?_
    refine ev_ialdJ (v := (gI X 112 (Int32.toNatClampNeg 0))) (pc := 155) d_mo_law_155 (ly_at (ly_sI (ly_sI hX)) 112 rfl) h_2.2.2.1 rfl ?_
    refine ev_iast (pc := 156) d_mo_law_156 (ly_at (ly_sI (ly_sI hX)) 97 rfl) h_2.1 ?_
    refine ev_aload_n (x := 55) (pc := 157) d_mo_law_157 rfl ?_
    refine ev_getR (pc := 158) d_mo_law_158 f_mo_144 (ly_at (ly_sI (ly_sI (ly_sI hX))) 55 rfl) gg_12 rfl (ly_rf (ly_sI (ly_sI (ly_sI hX))) 55 59 rfl) ?_
    refine ev_aload_n (x := 55) (pc := 161) d_mo_law_161 rfl ?_
    refine ev_getJ (v := (gI X 55 57)) (pc := 162) d_mo_law_162 f_mo_283 (ly_at (ly_sI (ly_sI (ly_sI hX))) 55 rfl) gg_12 rfl rfl ?_
    refine ev_aload_n (x := 55) (pc := 165) d_mo_law_165 rfl ?_
    refine ev_getR (pc := 166) d_mo_law_166 f_mo_187 (ly_at (ly_sI (ly_sI (ly_sI hX))) 55 rfl) gg_12 rfl (ly_rf (ly_sI (ly_sI (ly_sI hX))) 55 77 rfl) ?_
    refine ev_iconst (v := 1) (pc := 169) d_mo_law_169 kc_i_1 ?_
    refine ev_ialdJ (v := (gI X 112 (Int32.toNatClampNeg 1))) (pc := 170) d_mo_law_170 (ly_at (ly_sI (ly_sI (ly_sI hX))) 112 rfl) h_2.2.2.2.1 rfl ?_
    refine ev_iast (pc := 171) d_mo_law_171 (ly_at (ly_sI (ly_sI (ly_sI hX))) 98 rfl) h_2.1 ?_
    refine ev_aload_n (x := 55) (pc := 172) d_mo_law_172 rfl ?_
    refine ev_getR (pc := 173) d_mo_law_173 f_mo_147 (ly_at (ly_sI (ly_sI (ly_sI (ly_sI hX)))) 55 rfl) gg_12 rfl (ly_rf (ly_sI (ly_sI (ly_sI (ly_sI hX)))) 55 60 rfl) ?_
    refine ev_aload_n (x := 55) (pc := 176) d_mo_law_176 rfl ?_
    refine ev_getJ (v := (gI X 55 57)) (pc := 177) d_mo_law_177 f_mo_283 (ly_at (ly_sI (ly_sI (ly_sI (ly_sI hX)))) 55 rfl) gg_12 rfl rfl ?_
    refine ev_aload_n (x := 55) (pc := 180) d_mo_law_180 rfl ?_
    refine ev_getR (pc := 181) d_mo_law_181 f_mo_187 (ly_at (ly_sI (ly_sI (ly_sI (ly_sI hX)))) 55 rfl) gg_12 rfl (ly_rf (ly_sI (ly_sI (ly_sI (ly_sI hX)))) 55 77 rfl) ?_
    refine ev_iconst (v := 2) (pc := 184) d_mo_law_184 kc_i_2 ?_
    refine ev_ialdJ (v := (gI X 112 (Int32.toNatClampNeg 2))) (pc := 185) d_mo_law_185 (ly_at (ly_sI (ly_sI (ly_sI (ly_sI hX)))) 112 rfl) h_2.2.2.2.2.1 rfl ?_
    refine ev_iast (pc := 186) d_mo_law_186 (ly_at (ly_sI (ly_sI (ly_sI (ly_sI hX)))) 99 rfl) h_2.1 ?_
    refine ev_aload_n (x := 55) (pc := 187) d_mo_law_187 rfl ?_
    refine ev_getR (pc := 188) d_mo_law_188 f_mo_150 (ly_at (ly_sI (ly_sI (ly_sI (ly_sI (ly_sI hX))))) 55 rfl) gg_12 rfl (ly_rf (ly_sI (ly_sI (ly_sI (ly_sI (ly_sI hX))))) 55 61 rfl) ?_
    refine ev_aload_n (x := 55) (pc := 191) d_mo_law_191 rfl ?_
    refine ev_getJ (v := (gI X 55 57)) (pc := 192) d_mo_law_192 f_mo_283 (ly_at (ly_sI (ly_sI (ly_sI (ly_sI (ly_sI hX))))) 55 rfl) gg_12 rfl rfl ?_
    refine ev_aload_n (x := 55) (pc := 195) d_mo_law_195 rfl ?_
    refine ev_getR (pc := 196) d_mo_law_196 f_mo_187 (ly_at (ly_sI (ly_sI (ly_sI (ly_sI (ly_sI hX))))) 55 rfl) gg_12 rfl (ly_rf (ly_sI (ly_sI (ly_sI (ly_sI (ly_sI hX))))) 55 77 rfl) ?_
    refine ev_iconst (v := 3) (pc := 199) d_mo_law_199 kc_i_3 ?_
    refine ev_ialdJ (v := (gI X 112 (Int32.toNatClampNeg 3))) (pc := 200) d_mo_law_200 (ly_at (ly_sI (ly_sI (ly_sI (ly_sI (ly_sI hX))))) 112 rfl) h_2.2.2.2.2.2.1 rfl ?_
    refine ev_iast (pc := 201) d_mo_law_201 (ly_at (ly_sI (ly_sI (ly_sI (ly_sI (ly_sI hX))))) 100 rfl) h_2.1 ?_
    refine ev_aload_n (x := 55) (pc := 202) d_mo_law_202 rfl ?_
    refine ev_dup (pc := 203) d_mo_law_203 rfl ?_
    refine ev_getJ (v := (gI X 55 57)) (pc := 204) d_mo_law_204 f_mo_283 (ly_at (ly_sI (ly_sI (ly_sI (ly_sI (ly_sI (ly_sI hX)))))) 55 rfl) gg_12 rfl rfl ?_
    refine ev_iconst (v := 1) (pc := 207) d_mo_law_207 kc_i_1 ?_
    refine ev_iadd (pc := 208) d_mo_law_208 ?_
    refine ev_putI (pc := 209) d_mo_law_209 f_mo_283 (ly_at (ly_sI (ly_sI (ly_sI (ly_sI (ly_sI (ly_sI hX)))))) 55 rfl) gg_12 rfl (Or.inl rfl) (vp_nar_int _) rfl ?_
    refine ev_aload_n (x := 55) (pc := 212) d_mo_law_212 rfl ?_
    refine ev_getJ (v := ((gI X 55 57) + 1)) (pc := 213) d_mo_law_213 f_mo_283 (ly_at (ly_sI (ly_sI (ly_sI (ly_sI (ly_sI (ly_sI (ly_sI hX))))))) 55 rfl) gg_12 rfl rfl ?_
    refine ev_iconst (v := 1) (pc := 216) d_mo_law_216 kc_i_1 ?_
    refine ev_isub (pc := 217) d_mo_law_217 ?_
    exact ev_iret (pc := 218) ⟨Nat.le_of_ble_eq_true rfl, Nat.le_of_ble_eq_true rfl⟩ d_mo_law_218 rfl (vp_nar_int _) h_2.2.2.2.2.2.2
  · have h_3 := hh.2 c_1
    refine ev_bipush (v := (-10)) (pc := 124) d_mo_law_124 kc_b_m10 ?_
    refine ev_aload_n (x := 55) (pc := 126) d_mo_law_126 rfl ?_
    refine ev_getJ (v := (gI X 55 73)) (pc := 127) d_mo_law_127 f_mo_354 (ly_at (ly_sI hX) 55 rfl) gg_12 rfl rfl ?_
    refine ev_isub (pc := 130) d_mo_law_130 ?_
    exact ev_iret (pc := 131) ⟨Nat.le_of_ble_eq_true rfl, Nat.le_of_ble_eq_true rfl⟩ d_mo_law_131 rfl (vp_nar_int _) h_3
theorem b_mo_byteAt_0 {E : gp_E} {S : gp_S} {X : gp_H} {Q : Option Value → gp_H → Prop} {x1 : Int32} (hX : Lay S X)  (hh : (((gI X 55 64) ≤ x1 → Q (some (.int (-1))) X) ∧ (¬ (gI X 55 64) ≤ x1 → (vp_in x1 60 ∧ Q (some (.int (gI X 102 (Int32.toNatClampNeg x1)))) X)))) : Ev E m_mo_byteAt 0 [(0, .ref 55), (1, .int x1)] [] X (0, 0) Q := by
  refine ev_iload_n (x := x1) (pc := 0) d_mo_byteAt_0 rfl ?_
  refine ev_aload_n (x := 55) (pc := 1) d_mo_byteAt_1 rfl ?_
  refine ev_getJ (v := (gI X 55 64)) (pc := 2) d_mo_byteAt_2 f_mo_351 (ly_at hX 55 rfl) gg_12 rfl rfl ?_
  refine ev_icmp_ge (pc := 5) (tgt := 17) d_mo_byteAt_5 (by decide) (fun c_1 => ?_) (fun c_1 => ?_)
  · have h_2 := hh.1 c_1
    refine ev_iconst (v := (-1)) (pc := 17) d_mo_byteAt_17 kc_i_m1 ?_
    exact ev_iret (pc := 18) ⟨Nat.le_of_ble_eq_true rfl, Nat.le_of_ble_eq_true rfl⟩ d_mo_byteAt_18 rfl (vp_nar_int _) h_2
  · have h_3 := hh.2 c_1
    refine ev_aload_n (x := 55) (pc := 8) d_mo_byteAt_8 rfl ?_
    refine ev_getR (pc := 9) d_mo_byteAt_9 f_mo_156 (ly_at hX 55 rfl) gg_12 rfl (ly_rf hX 55 63 rfl) ?_
    refine ev_iload_n (x := x1) (pc := 12) d_mo_byteAt_12 rfl ?_
    refine ev_ialdJ (v := (gI X 102 (Int32.toNatClampNeg x1))) (pc := 13) d_mo_byteAt_13 (ly_at hX 102 rfl) h_3.1 rfl ?_
    refine ev_goto (pc := 14) (tgt := 18) d_mo_byteAt_14 (by decide) ?_
    exact ev_iret (pc := 18) ⟨Nat.le_of_ble_eq_true rfl, Nat.le_of_ble_eq_true rfl⟩ d_mo_byteAt_18 rfl (vp_nar_int _) h_3.2
theorem b_mo_reads_0 {E : gp_E} {S : gp_S} {X : gp_H} {Q : Option Value → gp_H → Prop} {x1 : Int32} (hX : Lay S X)  (hh : ((4 ≤ x1 → (∃ Qz_4, Ev E m_mo_byteAt 0 [(0, .ref 55), (1, .int (gI X 55 73))] [] X (0, 0) Qz_4 ∧ ∀ r X_7, Qz_4 r X_7 → ∃ v_12 : Int32, r = some (.int v_12) ∧ Lay S X_7 ∧ ((v_12 = x1 → Ev E m_mo_reads 31 [(0, .ref 55), (1, .int x1)] [.int 0, .ref 55] X_7 (0, 0) Q) ∧ (¬ v_12 = x1 → Ev E m_mo_reads 31 [(0, .ref 55), (1, .int x1)] [.int 1, .ref 55] X_7 (0, 0) Q)))) ∧ (¬ 4 ≤ x1 → (∃ Qz_16, Ev E m_mo_readsNumber 0 [(0, .ref 55), (1, .int x1)] [] X (0, 0) Qz_16 ∧ ∀ r X_19, Qz_16 r X_19 → (r = none ∧ Lay S X_19 ∧ Q none X_19))))) : Ev E m_mo_reads 0 [(0, .ref 55), (1, .int x1)] [] X (0, 0) Q := by
  refine ev_iload_n (x := x1) (pc := 0) d_mo_reads_0 rfl ?_
  refine ev_iconst (v := 4) (pc := 1) d_mo_reads_1 kc_i_4 ?_
  refine ev_icmp_ge (pc := 2) (tgt := 13) d_mo_reads_2 (by decide) (fun c_1 => ?_) (fun c_1 => ?_)
  · have h_2 := hh.1 c_1
    refine ev_aload_n (x := 55) (pc := 13) d_mo_reads_13 rfl ?_
    refine ev_aload_n (x := 55) (pc := 14) d_mo_reads_14 rfl ?_
    refine ev_aload_n (x := 55) (pc := 15) d_mo_reads_15 rfl ?_
    refine ev_getJ (v := (gI X 55 73)) (pc := 16) d_mo_reads_16 f_mo_354 (ly_at hX 55 rfl) gg_12 rfl rfl ?_
    obtain ⟨Qz_4, hc_5, hk_6⟩ := h_2
    refine ev_callV (z := m_mo_byteAt) (as := [.int (gI X 55 73)]) (rest := [.ref 55]) (pc := 19) d_mo_reads_19 (ly_at hX 55 rfl) lt13_12 rfl l_mo_357 i_mo_byteAt v_mo_byteAt o_mo_byteAt rfl rfl (Nat.le_of_ble_eq_true rfl) rfl (Nat.le_of_ble_eq_true rfl) ⟨Nat.le_of_ble_eq_true rfl, Nat.le_of_ble_eq_true rfl⟩ hc_5 (fun r_8 X_7 hq_9 => ?_)
    obtain ⟨v_12, rfl, hX_11, h_10⟩ := hk_6 _ _ hq_9
    show Ev E m_mo_reads 22 [(0, .ref 55), (1, .int x1)] [.int v_12, .ref 55] X_7 (0, 0) Q
    refine ev_iload_n (x := x1) (pc := 22) d_mo_reads_22 rfl ?_
    refine ev_icmp_eq (pc := 23) (tgt := 30) d_mo_reads_23 (by decide) (fun c_13 => ?_) (fun c_13 => ?_)
    · have h_14 := h_10.1 c_13
      refine ev_iconst (v := 0) (pc := 30) d_mo_reads_30 kc_i_0 ?_
      exact h_14
    · have h_15 := h_10.2 c_13
      refine ev_iconst (v := 1) (pc := 26) d_mo_reads_26 kc_i_1 ?_
      refine ev_goto (pc := 27) (tgt := 31) d_mo_reads_27 (by decide) ?_
      exact h_15
  · have h_3 := hh.2 c_1
    refine ev_aload_n (x := 55) (pc := 5) d_mo_reads_5 rfl ?_
    refine ev_iload_n (x := x1) (pc := 6) d_mo_reads_6 rfl ?_
    obtain ⟨Qz_16, hc_17, hk_18⟩ := h_3
    refine ev_callV (z := m_mo_readsNumber) (as := [.int x1]) (rest := []) (pc := 7) d_mo_reads_7 (ly_at hX 55 rfl) lt13_12 rfl l_mo_364 i_mo_readsNumber v_mo_readsNumber o_mo_readsNumber rfl rfl (Nat.le_of_ble_eq_true rfl) rfl (Nat.le_of_ble_eq_true rfl) ⟨Nat.le_of_ble_eq_true rfl, Nat.le_of_ble_eq_true rfl⟩ hc_17 (fun r_20 X_19 hq_21 => ?_)
    obtain ⟨rfl, hX_23, h_22⟩ := hk_18 _ _ hq_21
    show Ev E m_mo_reads 10 [(0, .ref 55), (1, .int x1)] [] X_19 (0, 0) Q
    refine ev_goto (pc := 10) (tgt := 55) d_mo_reads_10 (by decide) ?_
    exact ev_ret (pc := 55) ⟨Nat.le_of_ble_eq_true rfl, Nat.le_of_ble_eq_true rfl⟩ d_mo_reads_55 rfl h_22
theorem b_mo_reads_31 {E : gp_E} {S : gp_S} {X : gp_H} {Q : Option Value → gp_H → Prop} {x1 : Int32} {t0 : Int32} (hX : Lay S X)  (hh : ((narrow .boolean (.int t0) = .int t0 ∧ fits .boolean (.int t0) = true) ∧ ((t0 = 0 → Q none (gp_sI (gp_sI X 55 74 t0) 55 73 ((gI X 55 73) + 1))) ∧ (¬ t0 = 0 → Q none (gp_sI (gp_sI X 55 74 t0) 55 73 ((gI X 55 73) + 0)))))) : Ev E m_mo_reads 31 [(0, .ref 55), (1, .int x1)] [.int t0, .ref 55] X (0, 0) Q := by
  refine ev_putI (pc := 31) d_mo_reads_31 f_mo_360 (ly_at hX 55 rfl) gg_12 rfl (Or.inl rfl) hh.1.1 hh.1.2 ?_
  refine ev_aload_n (x := 55) (pc := 34) d_mo_reads_34 rfl ?_
  refine ev_dup (pc := 35) d_mo_reads_35 rfl ?_
  refine ev_getJ (v := (gI X 55 73)) (pc := 36) d_mo_reads_36 f_mo_354 (ly_at (ly_sI hX) 55 rfl) gg_12 rfl rfl ?_
  refine ev_aload_n (x := 55) (pc := 39) d_mo_reads_39 rfl ?_
  refine ev_getJ (v := t0) (pc := 40) d_mo_reads_40 f_mo_360 (ly_at (ly_sI hX) 55 rfl) gg_12 rfl rfl ?_
  refine ev_if_eq (pc := 43) (tgt := 50) d_mo_reads_43 (by decide) (fun c_1 => ?_) (fun c_1 => ?_)
  · have h_2 := hh.2.1 c_1
    refine ev_iconst (v := 1) (pc := 50) d_mo_reads_50 kc_i_1 ?_
    refine ev_iadd (pc := 51) d_mo_reads_51 ?_
    refine ev_putI (pc := 52) d_mo_reads_52 f_mo_354 (ly_at (ly_sI hX) 55 rfl) gg_12 rfl (Or.inl rfl) (vp_nar_int _) rfl ?_
    exact ev_ret (pc := 55) ⟨Nat.le_of_ble_eq_true rfl, Nat.le_of_ble_eq_true rfl⟩ d_mo_reads_55 rfl h_2
  · have h_3 := hh.2.2 c_1
    refine ev_iconst (v := 0) (pc := 46) d_mo_reads_46 kc_i_0 ?_
    refine ev_goto (pc := 47) (tgt := 51) d_mo_reads_47 (by decide) ?_
    refine ev_iadd (pc := 51) d_mo_reads_51 ?_
    refine ev_putI (pc := 52) d_mo_reads_52 f_mo_354 (ly_at (ly_sI hX) 55 rfl) gg_12 rfl (Or.inl rfl) (vp_nar_int _) rfl ?_
    exact ev_ret (pc := 55) ⟨Nat.le_of_ble_eq_true rfl, Nat.le_of_ble_eq_true rfl⟩ d_mo_reads_55 rfl h_3
theorem b_mo_readsNumber_0 {E : gp_E} {S : gp_S} {X : gp_H} {Q : Option Value → gp_H → Prop} {x1 : Int32} (hX : Lay S X)  (hh : ((¬ x1 = 0 → ((¬ x1 = 3 → Ev E m_mo_readsNumber 18 [(0, .ref 55), (1, .int x1)] [.int 3] X (0, 0) Q) ∧ (x1 = 3 → Ev E m_mo_readsNumber 18 [(0, .ref 55), (1, .int x1)] [.int 4] X (0, 0) Q))) ∧ (x1 = 0 → Ev E m_mo_readsNumber 18 [(0, .ref 55), (1, .int x1)] [.int 1] X (0, 0) Q))) : Ev E m_mo_readsNumber 0 [(0, .ref 55), (1, .int x1)] [] X (0, 0) Q := by
  refine ev_iload_n (x := x1) (pc := 0) d_mo_readsNumber_0 rfl ?_
  refine ev_if_ne (pc := 1) (tgt := 8) d_mo_readsNumber_1 (by decide) (fun c_1 => ?_) (fun c_1 => ?_)
  · have h_2 := hh.1 c_1
    refine ev_iload_n (x := x1) (pc := 8) d_mo_readsNumber_8 rfl ?_
    refine ev_iconst (v := 3) (pc := 9) d_mo_readsNumber_9 kc_i_3 ?_
    refine ev_icmp_ne (pc := 10) (tgt := 17) d_mo_readsNumber_10 (by decide) (fun c_4 => ?_) (fun c_4 => ?_)
    · have h_5 := h_2.1 c_4
      refine ev_iconst (v := 3) (pc := 17) d_mo_readsNumber_17 kc_i_3 ?_
      exact h_5
    · have h_6 := h_2.2 c_4
      refine ev_iconst (v := 4) (pc := 13) d_mo_readsNumber_13 kc_i_4 ?_
      refine ev_goto (pc := 14) (tgt := 18) d_mo_readsNumber_14 (by decide) ?_
      exact h_6
  · have h_3 := hh.2 c_1
    refine ev_iconst (v := 1) (pc := 4) d_mo_readsNumber_4 kc_i_1 ?_
    refine ev_goto (pc := 5) (tgt := 18) d_mo_readsNumber_5 (by decide) ?_
    exact h_3
theorem b_mo_readsNumber_18 {E : gp_E} {S : gp_S} {X : gp_H} {Q : Option Value → gp_H → Prop} {x1 : Int32} {t0 : Int32} (hX : Lay S X)  (hh : Ev E m_mo_readsNumber 24 [(0, .ref 55), (1, .int x1), (2, .int t0), (3, .int 0), (4, .int 0)] [] X (0, 0) Q) : Ev E m_mo_readsNumber 18 [(0, .ref 55), (1, .int x1)] [.int t0] X (0, 0) Q := by
  refine ev_istore_n (L2 := [(0, .ref 55), (1, .int x1), (2, .int t0)]) (pc := 18) d_mo_readsNumber_18 rfl (Nat.le_of_ble_eq_true rfl) rfl ?_
  refine ev_iconst (v := 0) (pc := 19) d_mo_readsNumber_19 kc_i_0 ?_
  refine ev_istore_n (L2 := [(0, .ref 55), (1, .int x1), (2, .int t0), (3, .int 0)]) (pc := 20) d_mo_readsNumber_20 rfl (Nat.le_of_ble_eq_true rfl) rfl ?_
  refine ev_iconst (v := 0) (pc := 21) d_mo_readsNumber_21 kc_i_0 ?_
  refine ev_istore (L2 := [(0, .ref 55), (1, .int x1), (2, .int t0), (3, .int 0), (4, .int 0)]) (pc := 22) d_mo_readsNumber_22 rfl (Nat.le_of_ble_eq_true rfl) rfl ?_
  exact hh
theorem b_mo_readsNumber_24 {E : gp_E} {S : gp_S} {X : gp_H} {Q : Option Value → gp_H → Prop} {x1 : Int32} {x2 : Int32} {x3 : Int32} {x4 : Int32} (hX : Lay S X)  (hh : ((x2 ≤ x3 → Ev E m_mo_readsNumber 82 [(0, .ref 55), (1, .int x1), (2, .int x2), (3, .int x3), (4, .int x4)] [] X (0, 0) Q) ∧ (¬ x2 ≤ x3 → (∃ Qz_4, Ev E m_mo_byteAt 0 [(0, .ref 55), (1, .int (gI X 55 73))] [] X (0, 0) Qz_4 ∧ ∀ r X_7, Qz_4 r X_7 → ∃ v_12 : Int32, r = some (.int v_12) ∧ Lay S X_7 ∧ (((iw v_12 48 57) = false → Ev E m_mo_readsNumber 82 [(0, .ref 55), (1, .int x1), (2, .int x2), (3, .int x3), (4, .int x4)] [] X_7 (0, 0) Q) ∧ ((iw v_12 48 57) = true → (∃ Qz_16, Ev E m_mo_byteAt 0 [(0, .ref 55), (1, .int (gI X_7 55 73))] [] X_7 (0, 0) Qz_16 ∧ ∀ r X_19, Qz_16 r X_19 → ∃ v_24 : Int32, r = some (.int v_24) ∧ Lay S X_19 ∧ Ev E m_mo_readsNumber 24 [(0, .ref 55), (1, .int x1), (2, .int x2), (3, .int (x3 + 1)), (4, .int (((10 * x4) + v_24) - 48))] [] (gp_sI X_19 55 73 ((gI X_19 55 73) + 1)) (0, 0) Q))))))) : Ev E m_mo_readsNumber 24 [(0, .ref 55), (1, .int x1), (2, .int x2), (3, .int x3), (4, .int x4)] [] X (0, 0) Q := by
  refine ev_iload_n (x := x3) (pc := 24) d_mo_readsNumber_24 rfl ?_
  refine ev_iload_n (x := x2) (pc := 25) d_mo_readsNumber_25 rfl ?_
  refine ev_icmp_ge (pc := 26) (tgt := 82) d_mo_readsNumber_26 (by decide) (fun c_1 => ?_) (fun c_1 => ?_)
  · have h_2 := hh.1 c_1
    exact h_2
  · have h_3 := hh.2 c_1
    refine ev_aload_n (x := 55) (pc := 29) d_mo_readsNumber_29 rfl ?_
    refine ev_aload_n (x := 55) (pc := 30) d_mo_readsNumber_30 rfl ?_
    refine ev_getJ (v := (gI X 55 73)) (pc := 31) d_mo_readsNumber_31 f_mo_354 (ly_at hX 55 rfl) gg_12 rfl rfl ?_
    obtain ⟨Qz_4, hc_5, hk_6⟩ := h_3
    refine ev_callV (z := m_mo_byteAt) (as := [.int (gI X 55 73)]) (rest := []) (pc := 34) d_mo_readsNumber_34 (ly_at hX 55 rfl) lt13_12 rfl l_mo_357 i_mo_byteAt v_mo_byteAt o_mo_byteAt rfl rfl (Nat.le_of_ble_eq_true rfl) rfl (Nat.le_of_ble_eq_true rfl) ⟨Nat.le_of_ble_eq_true rfl, Nat.le_of_ble_eq_true rfl⟩ hc_5 (fun r_8 X_7 hq_9 => ?_)
    obtain ⟨v_12, rfl, hX_11, h_10⟩ := hk_6 _ _ hq_9
    show Ev E m_mo_readsNumber 37 [(0, .ref 55), (1, .int x1), (2, .int x2), (3, .int x3), (4, .int x4)] [.int v_12] X_7 (0, 0) Q
    refine ev_bipush (v := 48) (pc := 37) d_mo_readsNumber_37 kc_b_48 ?_
    refine ev_bipush (v := 57) (pc := 39) d_mo_readsNumber_39 kc_b_57 ?_
    refine ev_callS (z := m_mo_in) (as := [.int v_12, .int 48, .int 57]) (rest := []) (pc := 41) d_mo_readsNumber_41 l_mo_196 i_mo_in o_mo_in rfl rfl (Nat.le_of_ble_eq_true rfl) rfl (Nat.le_of_ble_eq_true rfl) ⟨Nat.le_of_ble_eq_true rfl, Nat.le_of_ble_eq_true rfl⟩ (s_mo_in hX_11 v_12 48 57) (fun r X1 hq => ?_)
    obtain ⟨rfl, rfl⟩ := hq
    show Ev E m_mo_readsNumber 44 [(0, .ref 55), (1, .int x1), (2, .int x2), (3, .int x3), (4, .int x4)] [.int (bz (iw v_12 48 57))] X_7 (0, 0) Q
    refine ev_ifz_eq (pc := 44) (tgt := 82) d_mo_readsNumber_44 (by decide) (fun c_13 => ?_) (fun c_13 => ?_)
    · have h_14 := h_10.1 c_13
      exact h_14
    · have h_15 := h_10.2 c_13
      refine ev_bipush (v := 10) (pc := 47) d_mo_readsNumber_47 kc_b_10 ?_
      refine ev_iload (x := x4) (pc := 49) d_mo_readsNumber_49 rfl ?_
      refine ev_imul (pc := 51) d_mo_readsNumber_51 ?_
      refine ev_aload_n (x := 55) (pc := 52) d_mo_readsNumber_52 rfl ?_
      refine ev_aload_n (x := 55) (pc := 53) d_mo_readsNumber_53 rfl ?_
      refine ev_getJ (v := (gI X_7 55 73)) (pc := 54) d_mo_readsNumber_54 f_mo_354 (ly_at hX_11 55 rfl) gg_12 rfl rfl ?_
      obtain ⟨Qz_16, hc_17, hk_18⟩ := h_15
      refine ev_callV (z := m_mo_byteAt) (as := [.int (gI X_7 55 73)]) (rest := [.int (10 * x4)]) (pc := 57) d_mo_readsNumber_57 (ly_at hX_11 55 rfl) lt13_12 rfl l_mo_357 i_mo_byteAt v_mo_byteAt o_mo_byteAt rfl rfl (Nat.le_of_ble_eq_true rfl) rfl (Nat.le_of_ble_eq_true rfl) ⟨Nat.le_of_ble_eq_true rfl, Nat.le_of_ble_eq_true rfl⟩ hc_17 (fun r_20 X_19 hq_21 => ?_)
      obtain ⟨v_24, rfl, hX_23, h_22⟩ := hk_18 _ _ hq_21
      show Ev E m_mo_readsNumber 60 [(0, .ref 55), (1, .int x1), (2, .int x2), (3, .int x3), (4, .int x4)] [.int v_24, .int (10 * x4)] X_19 (0, 0) Q
      refine ev_iadd (pc := 60) d_mo_readsNumber_60 ?_
      refine ev_bipush (v := 48) (pc := 61) d_mo_readsNumber_61 kc_b_48 ?_
      refine ev_isub (pc := 63) d_mo_readsNumber_63 ?_
      refine ev_istore (L2 := [(0, .ref 55), (1, .int x1), (2, .int x2), (3, .int x3), (4, .int (((10 * x4) + v_24) - 48))]) (pc := 64) d_mo_readsNumber_64 rfl (Nat.le_of_ble_eq_true rfl) rfl ?_
      refine ev_aload_n (x := 55) (pc := 66) d_mo_readsNumber_66 rfl ?_
      refine ev_dup (pc := 67) d_mo_readsNumber_67 rfl ?_
      refine ev_getJ (v := (gI X_19 55 73)) (pc := 68) d_mo_readsNumber_68 f_mo_354 (ly_at hX_23 55 rfl) gg_12 rfl rfl ?_
      refine ev_iconst (v := 1) (pc := 71) d_mo_readsNumber_71 kc_i_1 ?_
      refine ev_iadd (pc := 72) d_mo_readsNumber_72 ?_
      refine ev_putI (pc := 73) d_mo_readsNumber_73 f_mo_354 (ly_at hX_23 55 rfl) gg_12 rfl (Or.inl rfl) (vp_nar_int _) rfl ?_
      refine ev_iinc (v := (x3 + 1)) (L2 := [(0, .ref 55), (1, .int x1), (2, .int x2), (3, .int (x3 + 1)), (4, .int (((10 * x4) + v_24) - 48))]) (pc := 76) d_mo_readsNumber_76 rfl (by rw [kc_i_1]) rfl (Nat.le_of_ble_eq_true rfl) rfl ?_
      refine ev_goto (pc := 79) (tgt := 24) d_mo_readsNumber_79 (by decide) ?_
      exact h_22
theorem b_mo_readsNumber_82 {E : gp_E} {S : gp_S} {X : gp_H} {Q : Option Value → gp_H → Prop} {x1 : Int32} {x2 : Int32} {x3 : Int32} {x4 : Int32} (hX : Lay S X)  (hh : ((¬ x3 = 0 → Ev E m_mo_readsNumber 92 [(0, .ref 55), (1, .int x1), (2, .int x2), (3, .int x3), (4, .int x4)] [.int 0, .ref 55] X (0, 0) Q) ∧ (x3 = 0 → Ev E m_mo_readsNumber 92 [(0, .ref 55), (1, .int x1), (2, .int x2), (3, .int x3), (4, .int x4)] [.int 1, .ref 55] X (0, 0) Q))) : Ev E m_mo_readsNumber 82 [(0, .ref 55), (1, .int x1), (2, .int x2), (3, .int x3), (4, .int x4)] [] X (0, 0) Q := by
  refine ev_aload_n (x := 55) (pc := 82) d_mo_readsNumber_82 rfl ?_
  refine ev_iload_n (x := x3) (pc := 83) d_mo_readsNumber_83 rfl ?_
  refine ev_if_ne (pc := 84) (tgt := 91) d_mo_readsNumber_84 (by decide) (fun c_1 => ?_) (fun c_1 => ?_)
  · have h_2 := hh.1 c_1
    refine ev_iconst (v := 0) (pc := 91) d_mo_readsNumber_91 kc_i_0 ?_
    exact h_2
  · have h_3 := hh.2 c_1
    refine ev_iconst (v := 1) (pc := 87) d_mo_readsNumber_87 kc_i_1 ?_
    refine ev_goto (pc := 88) (tgt := 92) d_mo_readsNumber_88 (by decide) ?_
    exact h_3
theorem b_mo_readsNumber_92 {E : gp_E} {S : gp_S} {X : gp_H} {Q : Option Value → gp_H → Prop} {x1 : Int32} {x2 : Int32} {x3 : Int32} {x4 : Int32} {t0 : Int32} (hX : Lay S X)  (hh : ((narrow .boolean (.int t0) = .int t0 ∧ fits .boolean (.int t0) = true) ∧ (vp_in x1 4 ∧ Q none (gp_sI (gp_sI X 55 74 t0) 112 (Int32.toNatClampNeg x1) x4)))) : Ev E m_mo_readsNumber 92 [(0, .ref 55), (1, .int x1), (2, .int x2), (3, .int x3), (4, .int x4)] [.int t0, .ref 55] X (0, 0) Q := by
  refine ev_putI (pc := 92) d_mo_readsNumber_92 f_mo_360 (ly_at hX 55 rfl) gg_12 rfl (Or.inl rfl) hh.1.1 hh.1.2 ?_
  refine ev_aload_n (x := 55) (pc := 95) d_mo_readsNumber_95 rfl ?_
  refine ev_getR (pc := 96) d_mo_readsNumber_96 f_mo_187 (ly_at (ly_sI hX) 55 rfl) gg_12 rfl (ly_rf (ly_sI hX) 55 77 rfl) ?_
  refine ev_iload_n (x := x1) (pc := 99) d_mo_readsNumber_99 rfl ?_
  refine ev_iload (x := x4) (pc := 100) d_mo_readsNumber_100 rfl ?_
  refine ev_iast (pc := 102) d_mo_readsNumber_102 (ly_at (ly_sI hX) 112 rfl) hh.2.1 ?_
  exact ev_ret (pc := 103) ⟨Nat.le_of_ble_eq_true rfl, Nat.le_of_ble_eq_true rfl⟩ d_mo_readsNumber_103 rfl hh.2.2
theorem b_mo_bill_0 {E : gp_E} {S : gp_S} {X : gp_H} {Q : Option Value → gp_H → Prop} {x1 : Int32} (hX : Lay S X)  (hh : (((iw x1 0 ((gI X 55 19) - 1)) = true → Ev E m_mo_bill 14 [(0, .ref 55), (1, .int x1), (2, .int 0), (3, .int 0)] [] X (0, 0) Q) ∧ ((iw x1 0 ((gI X 55 19) - 1)) = false → Q (some (.int (-1))) X))) : Ev E m_mo_bill 0 [(0, .ref 55), (1, .int x1)] [] X (0, 0) Q := by
  refine ev_aload_n (x := 55) (pc := 0) d_mo_bill_0 rfl ?_
  refine ev_iload_n (x := x1) (pc := 1) d_mo_bill_1 rfl ?_
  refine ev_callV (z := m_mo_isHome) (as := [.int x1]) (rest := []) (pc := 2) d_mo_bill_2 (ly_at hX 55 rfl) lt13_12 rfl l_mo_251 i_mo_isHome v_mo_isHome o_mo_isHome rfl rfl (Nat.le_of_ble_eq_true rfl) rfl (Nat.le_of_ble_eq_true rfl) ⟨Nat.le_of_ble_eq_true rfl, Nat.le_of_ble_eq_true rfl⟩ (s_mo_isHome hX x1 ) (fun r X1 hq => ?_)
  obtain ⟨rfl, rfl⟩ := hq
  show Ev E m_mo_bill 5 [(0, .ref 55), (1, .int x1)] [.int (bz (iw x1 0 ((gI X 55 19) - 1)))] X (0, 0) Q
  refine ev_ifz_ne (pc := 5) (tgt := 10) d_mo_bill_5 (by decide) (fun c_1 => ?_) (fun c_1 => ?_)
  · have h_2 := hh.1 c_1
    refine ev_iconst (v := 0) (pc := 10) d_mo_bill_10 kc_i_0 ?_
    refine ev_istore_n (L2 := [(0, .ref 55), (1, .int x1), (2, .int 0)]) (pc := 11) d_mo_bill_11 rfl (Nat.le_of_ble_eq_true rfl) rfl ?_
    refine ev_iconst (v := 0) (pc := 12) d_mo_bill_12 kc_i_0 ?_
    refine ev_istore_n (L2 := [(0, .ref 55), (1, .int x1), (2, .int 0), (3, .int 0)]) (pc := 13) d_mo_bill_13 rfl (Nat.le_of_ble_eq_true rfl) rfl ?_
    exact h_2
  · have h_3 := hh.2 c_1
    refine ev_iconst (v := (-1)) (pc := 8) d_mo_bill_8 kc_i_m1 ?_
    exact ev_iret (pc := 9) ⟨Nat.le_of_ble_eq_true rfl, Nat.le_of_ble_eq_true rfl⟩ d_mo_bill_9 rfl (vp_nar_int _) h_3
theorem b_mo_bill_14 {E : gp_E} {S : gp_S} {X : gp_H} {Q : Option Value → gp_H → Prop} {x1 : Int32} {x2 : Int32} {x3 : Int32} (hX : Lay S X)  (hh : (((gI X 55 57) ≤ x3 → Q (some (.int x2)) X) ∧ (¬ (gI X 55 57) ≤ x3 → (vp_in x1 40 ∧ ((¬ (gI X 74 (Int32.toNatClampNeg x1)) = 1 → Q (some (.int x2)) X) ∧ ((gI X 74 (Int32.toNatClampNeg x1)) = 1 → (vp_in x3 10 ∧ ((¬ (gI X 101 (Int32.toNatClampNeg x3)) = 0 → Ev E m_mo_bill 14 [(0, .ref 55), (1, .int x1), (2, .int x2), (3, .int (x3 + 1))] [] X (0, 0) Q) ∧ ((gI X 101 (Int32.toNatClampNeg x3)) = 0 → (vp_in (gI X 73 (Int32.toNatClampNeg x1)) 12 ∧ ((¬ (gI X 97 (Int32.toNatClampNeg x3)) = (gI X 69 (Int32.toNatClampNeg (gI X 73 (Int32.toNatClampNeg x1)))) → Ev E m_mo_bill 14 [(0, .ref 55), (1, .int x1), (2, .int x2), (3, .int (x3 + 1))] [] X (0, 0) Q) ∧ ((gI X 97 (Int32.toNatClampNeg x3)) = (gI X 69 (Int32.toNatClampNeg (gI X 73 (Int32.toNatClampNeg x1)))) → (((gI X 76 (Int32.toNatClampNeg x1)) < (gI X 98 (Int32.toNatClampNeg x3)) → Ev E m_mo_bill 14 [(0, .ref 55), (1, .int x1), (2, .int x2), (3, .int (x3 + 1))] [] X (0, 0) Q) ∧ (¬ (gI X 76 (Int32.toNatClampNeg x1)) < (gI X 98 (Int32.toNatClampNeg x3)) → Ev E m_mo_bill 14 [(0, .ref 55), (1, .int x1), (2, .int (gI X 100 (Int32.toNatClampNeg x3))), (3, .int (x3 + 1))] [] X (0, 0) Q)))))))))))))) : Ev E m_mo_bill 14 [(0, .ref 55), (1, .int x1), (2, .int x2), (3, .int x3)] [] X (0, 0) Q := by
  refine ev_iload_n (x := x3) (pc := 14) d_mo_bill_14 rfl ?_
  refine ev_aload_n (x := 55) (pc := 15) d_mo_bill_15 rfl ?_
  refine ev_getJ (v := (gI X 55 57)) (pc := 16) d_mo_bill_16 f_mo_283 (ly_at hX 55 rfl) gg_12 rfl rfl ?_
  refine ev_icmp_ge (pc := 19) (tgt := 93) d_mo_bill_19 (by decide) (fun c_1 => ?_) (fun c_1 => ?_)
  · have h_2 := hh.1 c_1
    refine ev_iload_n (x := x2) (pc := 93) d_mo_bill_93 rfl ?_
    exact ev_iret (pc := 94) ⟨Nat.le_of_ble_eq_true rfl, Nat.le_of_ble_eq_true rfl⟩ d_mo_bill_94 rfl (vp_nar_int _) h_2
  · have h_3 := hh.2 c_1
    refine ev_aload_n (x := 55) (pc := 22) d_mo_bill_22 rfl ?_
    refine ev_getR (pc := 23) d_mo_bill_23 f_mo_69 (ly_at hX 55 rfl) gg_12 rfl (ly_rf hX 55 24 rfl) ?_
    refine ev_iload_n (x := x1) (pc := 26) d_mo_bill_26 rfl ?_
    refine ev_ialdJ (v := (gI X 74 (Int32.toNatClampNeg x1))) (pc := 27) d_mo_bill_27 (ly_at hX 74 rfl) h_3.1 rfl ?_
    refine ev_iconst (v := 1) (pc := 28) d_mo_bill_28 kc_i_1 ?_
    refine ev_icmp_ne (pc := 29) (tgt := 93) d_mo_bill_29 (by decide) (fun c_4 => ?_) (fun c_4 => ?_)
    · have h_5 := h_3.2.1 c_4
      refine ev_iload_n (x := x2) (pc := 93) d_mo_bill_93 rfl ?_
      exact ev_iret (pc := 94) ⟨Nat.le_of_ble_eq_true rfl, Nat.le_of_ble_eq_true rfl⟩ d_mo_bill_94 rfl (vp_nar_int _) h_5
    · have h_6 := h_3.2.2 c_4
      refine ev_aload_n (x := 55) (pc := 32) d_mo_bill_32 rfl ?_
      refine ev_getR (pc := 33) d_mo_bill_33 f_mo_153 (ly_at hX 55 rfl) gg_12 rfl (ly_rf hX 55 62 rfl) ?_
      refine ev_iload_n (x := x3) (pc := 36) d_mo_bill_36 rfl ?_
      refine ev_zaldJ (v := (gI X 101 (Int32.toNatClampNeg x3))) (pc := 37) d_mo_bill_37 (ly_at hX 101 rfl) h_6.1 rfl ?_
      refine ev_if_ne (pc := 38) (tgt := 85) d_mo_bill_38 (by decide) (fun c_7 => ?_) (fun c_7 => ?_)
      · have h_8 := h_6.2.1 c_7
        refine ev_iload_n (x := x2) (pc := 85) d_mo_bill_85 rfl ?_
        refine ev_istore_n (L2 := [(0, .ref 55), (1, .int x1), (2, .int x2), (3, .int x3)]) (pc := 86) d_mo_bill_86 rfl (Nat.le_of_ble_eq_true rfl) rfl ?_
        refine ev_iinc (v := (x3 + 1)) (L2 := [(0, .ref 55), (1, .int x1), (2, .int x2), (3, .int (x3 + 1))]) (pc := 87) d_mo_bill_87 rfl (by rw [kc_i_1]) rfl (Nat.le_of_ble_eq_true rfl) rfl ?_
        refine ev_goto (pc := 90) (tgt := 14) d_mo_bill_90 (by decide) ?_
        exact h_8
      · have h_9 := h_6.2.2 c_7
        refine ev_aload_n (x := 55) (pc := 41) d_mo_bill_41 rfl ?_
        refine ev_getR (pc := 42) d_mo_bill_42 f_mo_141 (ly_at hX 55 rfl) gg_12 rfl (ly_rf hX 55 58 rfl) ?_
        refine ev_iload_n (x := x3) (pc := 45) d_mo_bill_45 rfl ?_
        refine ev_ialdJ (v := (gI X 97 (Int32.toNatClampNeg x3))) (pc := 46) d_mo_bill_46 (ly_at hX 97 rfl) h_6.1 rfl ?_
        refine ev_aload_n (x := 55) (pc := 47) d_mo_bill_47 rfl ?_
        refine ev_getR (pc := 48) d_mo_bill_48 f_mo_54 (ly_at hX 55 rfl) gg_12 rfl (ly_rf hX 55 18 rfl) ?_
        refine ev_aload_n (x := 55) (pc := 51) d_mo_bill_51 rfl ?_
        refine ev_getR (pc := 52) d_mo_bill_52 f_mo_66 (ly_at hX 55 rfl) gg_12 rfl (ly_rf hX 55 23 rfl) ?_
        refine ev_iload_n (x := x1) (pc := 55) d_mo_bill_55 rfl ?_
        refine ev_ialdJ (v := (gI X 73 (Int32.toNatClampNeg x1))) (pc := 56) d_mo_bill_56 (ly_at hX 73 rfl) h_3.1 rfl ?_
        refine ev_ialdJ (v := (gI X 69 (Int32.toNatClampNeg (gI X 73 (Int32.toNatClampNeg x1))))) (pc := 57) d_mo_bill_57 (ly_at hX 69 rfl) h_9.1 rfl ?_
        refine ev_icmp_ne (pc := 58) (tgt := 85) d_mo_bill_58 (by decide) (fun c_10 => ?_) (fun c_10 => ?_)
        · have h_11 := h_9.2.1 c_10
          refine ev_iload_n (x := x2) (pc := 85) d_mo_bill_85 rfl ?_
          refine ev_istore_n (L2 := [(0, .ref 55), (1, .int x1), (2, .int x2), (3, .int x3)]) (pc := 86) d_mo_bill_86 rfl (Nat.le_of_ble_eq_true rfl) rfl ?_
          refine ev_iinc (v := (x3 + 1)) (L2 := [(0, .ref 55), (1, .int x1), (2, .int x2), (3, .int (x3 + 1))]) (pc := 87) d_mo_bill_87 rfl (by rw [kc_i_1]) rfl (Nat.le_of_ble_eq_true rfl) rfl ?_
          refine ev_goto (pc := 90) (tgt := 14) d_mo_bill_90 (by decide) ?_
          exact h_11
        · have h_12 := h_9.2.2 c_10
          refine ev_aload_n (x := 55) (pc := 61) d_mo_bill_61 rfl ?_
          refine ev_getR (pc := 62) d_mo_bill_62 f_mo_144 (ly_at hX 55 rfl) gg_12 rfl (ly_rf hX 55 59 rfl) ?_
          refine ev_iload_n (x := x3) (pc := 65) d_mo_bill_65 rfl ?_
          refine ev_ialdJ (v := (gI X 98 (Int32.toNatClampNeg x3))) (pc := 66) d_mo_bill_66 (ly_at hX 98 rfl) h_6.1 rfl ?_
          refine ev_aload_n (x := 55) (pc := 67) d_mo_bill_67 rfl ?_
          refine ev_getR (pc := 68) d_mo_bill_68 f_mo_75 (ly_at hX 55 rfl) gg_12 rfl (ly_rf hX 55 26 rfl) ?_
          refine ev_iload_n (x := x1) (pc := 71) d_mo_bill_71 rfl ?_
          refine ev_ialdJ (v := (gI X 76 (Int32.toNatClampNeg x1))) (pc := 72) d_mo_bill_72 (ly_at hX 76 rfl) h_3.1 rfl ?_
          refine ev_icmp_gt (pc := 73) (tgt := 85) d_mo_bill_73 (by decide) (fun c_13 => ?_) (fun c_13 => ?_)
          · have h_14 := h_12.1 c_13
            refine ev_iload_n (x := x2) (pc := 85) d_mo_bill_85 rfl ?_
            refine ev_istore_n (L2 := [(0, .ref 55), (1, .int x1), (2, .int x2), (3, .int x3)]) (pc := 86) d_mo_bill_86 rfl (Nat.le_of_ble_eq_true rfl) rfl ?_
            refine ev_iinc (v := (x3 + 1)) (L2 := [(0, .ref 55), (1, .int x1), (2, .int x2), (3, .int (x3 + 1))]) (pc := 87) d_mo_bill_87 rfl (by rw [kc_i_1]) rfl (Nat.le_of_ble_eq_true rfl) rfl ?_
            refine ev_goto (pc := 90) (tgt := 14) d_mo_bill_90 (by decide) ?_
            exact h_14
          · have h_15 := h_12.2 c_13
            refine ev_aload_n (x := 55) (pc := 76) d_mo_bill_76 rfl ?_
            refine ev_getR (pc := 77) d_mo_bill_77 f_mo_150 (ly_at hX 55 rfl) gg_12 rfl (ly_rf hX 55 61 rfl) ?_
            refine ev_iload_n (x := x3) (pc := 80) d_mo_bill_80 rfl ?_
            refine ev_ialdJ (v := (gI X 100 (Int32.toNatClampNeg x3))) (pc := 81) d_mo_bill_81 (ly_at hX 100 rfl) h_6.1 rfl ?_
            refine ev_goto (pc := 82) (tgt := 86) d_mo_bill_82 (by decide) ?_
            refine ev_istore_n (L2 := [(0, .ref 55), (1, .int x1), (2, .int (gI X 100 (Int32.toNatClampNeg x3))), (3, .int x3)]) (pc := 86) d_mo_bill_86 rfl (Nat.le_of_ble_eq_true rfl) rfl ?_
            refine ev_iinc (v := (x3 + 1)) (L2 := [(0, .ref 55), (1, .int x1), (2, .int (gI X 100 (Int32.toNatClampNeg x3))), (3, .int (x3 + 1))]) (pc := 87) d_mo_bill_87 rfl (by rw [kc_i_1]) rfl (Nat.le_of_ble_eq_true rfl) rfl ?_
            refine ev_goto (pc := 90) (tgt := 14) d_mo_bill_90 (by decide) ?_
            exact h_15
theorem b_mo_act_0 {E : gp_E} {S : gp_S} {X : gp_H} {Q : Option Value → gp_H → Prop} {x1 : Int32} {x2 : Int32} {x3 : Int32} (hX : Lay S X)  (hh : (((iw x1 0 ((gI (gp_sI X 55 65 0) 55 13) - 1)) = false → Q (some (.int 0)) (gp_sI X 55 65 0)) ∧ ((iw x1 0 ((gI (gp_sI X 55 65 0) 55 13) - 1)) = true → (((iw x2 0 2) = true → ((¬ x2 = 0 → ((¬ x2 = 1 → (∃ Qz_13, Ev E m_mo_fitsBody 0 [(0, .ref 55), (1, .int x1), (2, .int x3)] [] (gp_sI X 55 65 0) (0, 0) Qz_13 ∧ ∀ r X_16, Qz_13 r X_16 → ∃ v_21 : Int32, r = some (.int v_21) ∧ Lay S X_16 ∧ Q (some (.int v_21)) X_16)) ∧ (x2 = 1 → (∃ Qz_22, Ev E m_mo_warms 0 [(0, .ref 55), (1, .int x1), (2, .int x3)] [] (gp_sI X 55 65 0) (0, 0) Qz_22 ∧ ∀ r X_25, Qz_22 r X_25 → ∃ v_30 : Int32, r = some (.int v_30) ∧ Lay S X_25 ∧ Q (some (.int v_30)) X_25)))) ∧ (x2 = 0 → (∃ Qz_31, Ev E m_mo_burns 0 [(0, .ref 55), (1, .int x1), (2, .int x3)] [] (gp_sI X 55 65 0) (0, 0) Qz_31 ∧ ∀ r X_34, Qz_31 r X_34 → ∃ v_39 : Int32, r = some (.int v_39) ∧ Lay S X_34 ∧ Q (some (.int v_39)) X_34)))) ∧ ((iw x2 0 2) = false → Q (some (.int 0)) (gp_sI X 55 65 0)))))) : Ev E m_mo_act 0 [(0, .ref 55), (1, .int x1), (2, .int x2), (3, .int x3)] [] X (0, 0) Q := by
  refine ev_aload_n (x := 55) (pc := 0) d_mo_act_0 rfl ?_
  refine ev_iconst (v := 0) (pc := 1) d_mo_act_1 kc_i_0 ?_
  refine ev_putI (pc := 2) d_mo_act_2 f_mo_370 (ly_at hX 55 rfl) gg_12 rfl (Or.inl rfl) (vp_nar_int _) rfl ?_
  refine ev_aload_n (x := 55) (pc := 5) d_mo_act_5 rfl ?_
  refine ev_iload_n (x := x1) (pc := 6) d_mo_act_6 rfl ?_
  refine ev_callV (z := m_mo_isModel) (as := [.int x1]) (rest := []) (pc := 7) d_mo_act_7 (ly_at (ly_sI hX) 55 rfl) lt13_12 rfl l_mo_248 i_mo_isModel v_mo_isModel o_mo_isModel rfl rfl (Nat.le_of_ble_eq_true rfl) rfl (Nat.le_of_ble_eq_true rfl) ⟨Nat.le_of_ble_eq_true rfl, Nat.le_of_ble_eq_true rfl⟩ (s_mo_isModel (ly_sI hX) x1 ) (fun r X1 hq => ?_)
  obtain ⟨rfl, rfl⟩ := hq
  show Ev E m_mo_act 10 [(0, .ref 55), (1, .int x1), (2, .int x2), (3, .int x3)] [.int (bz (iw x1 0 ((gI (gp_sI X 55 65 0) 55 13) - 1)))] (gp_sI X 55 65 0) (0, 0) Q
  refine ev_ifz_eq (pc := 10) (tgt := 22) d_mo_act_10 (by decide) (fun c_1 => ?_) (fun c_1 => ?_)
  · have h_2 := hh.1 c_1
    refine ev_iconst (v := 0) (pc := 22) d_mo_act_22 kc_i_0 ?_
    exact ev_iret (pc := 23) ⟨Nat.le_of_ble_eq_true rfl, Nat.le_of_ble_eq_true rfl⟩ d_mo_act_23 rfl (vp_nar_int _) h_2
  · have h_3 := hh.2 c_1
    refine ev_iload_n (x := x2) (pc := 13) d_mo_act_13 rfl ?_
    refine ev_iconst (v := 0) (pc := 14) d_mo_act_14 kc_i_0 ?_
    refine ev_iconst (v := 2) (pc := 15) d_mo_act_15 kc_i_2 ?_
    refine ev_callS (z := m_mo_in) (as := [.int x2, .int 0, .int 2]) (rest := []) (pc := 16) d_mo_act_16 l_mo_196 i_mo_in o_mo_in rfl rfl (Nat.le_of_ble_eq_true rfl) rfl (Nat.le_of_ble_eq_true rfl) ⟨Nat.le_of_ble_eq_true rfl, Nat.le_of_ble_eq_true rfl⟩ (s_mo_in (ly_sI hX) x2 0 2) (fun r X1 hq => ?_)
    obtain ⟨rfl, rfl⟩ := hq
    show Ev E m_mo_act 19 [(0, .ref 55), (1, .int x1), (2, .int x2), (3, .int x3)] [.int (bz (iw x2 0 2))] (gp_sI X 55 65 0) (0, 0) Q
    refine ev_ifz_ne (pc := 19) (tgt := 24) d_mo_act_19 (by decide) (fun c_4 => ?_) (fun c_4 => ?_)
    · have h_5 := h_3.1 c_4
      refine ev_iload_n (x := x2) (pc := 24) d_mo_act_24 rfl ?_
      refine ev_if_ne (pc := 25) (tgt := 37) d_mo_act_25 (by decide) (fun c_7 => ?_) (fun c_7 => ?_)
      · have h_8 := h_5.1 c_7
        refine ev_iload_n (x := x2) (pc := 37) d_mo_act_37 rfl ?_
        refine ev_iconst (v := 1) (pc := 38) d_mo_act_38 kc_i_1 ?_
        refine ev_icmp_ne (pc := 39) (tgt := 51) d_mo_act_39 (by decide) (fun c_10 => ?_) (fun c_10 => ?_)
        · have h_11 := h_8.1 c_10
          refine ev_aload_n (x := 55) (pc := 51) d_mo_act_51 rfl ?_
          refine ev_iload_n (x := x1) (pc := 52) d_mo_act_52 rfl ?_
          refine ev_iload_n (x := x3) (pc := 53) d_mo_act_53 rfl ?_
          obtain ⟨Qz_13, hc_14, hk_15⟩ := h_11
          refine ev_callV (z := m_mo_fitsBody) (as := [.int x1, .int x3]) (rest := []) (pc := 54) d_mo_act_54 (ly_at (ly_sI hX) 55 rfl) lt13_12 rfl l_mo_391 i_mo_fitsBody v_mo_fitsBody o_mo_fitsBody rfl rfl (Nat.le_of_ble_eq_true rfl) rfl (Nat.le_of_ble_eq_true rfl) ⟨Nat.le_of_ble_eq_true rfl, Nat.le_of_ble_eq_true rfl⟩ hc_14 (fun r_17 X_16 hq_18 => ?_)
          obtain ⟨v_21, rfl, hX_20, h_19⟩ := hk_15 _ _ hq_18
          show Ev E m_mo_act 57 [(0, .ref 55), (1, .int x1), (2, .int x2), (3, .int x3)] [.int v_21] X_16 (0, 0) Q
          exact ev_iret (pc := 57) ⟨Nat.le_of_ble_eq_true rfl, Nat.le_of_ble_eq_true rfl⟩ d_mo_act_57 rfl (vp_nar_int _) h_19
        · have h_12 := h_8.2 c_10
          refine ev_aload_n (x := 55) (pc := 42) d_mo_act_42 rfl ?_
          refine ev_iload_n (x := x1) (pc := 43) d_mo_act_43 rfl ?_
          refine ev_iload_n (x := x3) (pc := 44) d_mo_act_44 rfl ?_
          obtain ⟨Qz_22, hc_23, hk_24⟩ := h_12
          refine ev_callV (z := m_mo_warms) (as := [.int x1, .int x3]) (rest := []) (pc := 45) d_mo_act_45 (ly_at (ly_sI hX) 55 rfl) lt13_12 rfl l_mo_385 i_mo_warms v_mo_warms o_mo_warms rfl rfl (Nat.le_of_ble_eq_true rfl) rfl (Nat.le_of_ble_eq_true rfl) ⟨Nat.le_of_ble_eq_true rfl, Nat.le_of_ble_eq_true rfl⟩ hc_23 (fun r_26 X_25 hq_27 => ?_)
          obtain ⟨v_30, rfl, hX_29, h_28⟩ := hk_24 _ _ hq_27
          show Ev E m_mo_act 48 [(0, .ref 55), (1, .int x1), (2, .int x2), (3, .int x3)] [.int v_30] X_25 (0, 0) Q
          refine ev_goto (pc := 48) (tgt := 57) d_mo_act_48 (by decide) ?_
          exact ev_iret (pc := 57) ⟨Nat.le_of_ble_eq_true rfl, Nat.le_of_ble_eq_true rfl⟩ d_mo_act_57 rfl (vp_nar_int _) h_28
      · have h_9 := h_5.2 c_7
        refine ev_aload_n (x := 55) (pc := 28) d_mo_act_28 rfl ?_
        refine ev_iload_n (x := x1) (pc := 29) d_mo_act_29 rfl ?_
        refine ev_iload_n (x := x3) (pc := 30) d_mo_act_30 rfl ?_
        obtain ⟨Qz_31, hc_32, hk_33⟩ := h_9
        refine ev_callV (z := m_mo_burns) (as := [.int x1, .int x3]) (rest := []) (pc := 31) d_mo_act_31 (ly_at (ly_sI hX) 55 rfl) lt13_12 rfl l_mo_379 i_mo_burns v_mo_burns o_mo_burns rfl rfl (Nat.le_of_ble_eq_true rfl) rfl (Nat.le_of_ble_eq_true rfl) ⟨Nat.le_of_ble_eq_true rfl, Nat.le_of_ble_eq_true rfl⟩ hc_32 (fun r_35 X_34 hq_36 => ?_)
        obtain ⟨v_39, rfl, hX_38, h_37⟩ := hk_33 _ _ hq_36
        show Ev E m_mo_act 34 [(0, .ref 55), (1, .int x1), (2, .int x2), (3, .int x3)] [.int v_39] X_34 (0, 0) Q
        refine ev_goto (pc := 34) (tgt := 57) d_mo_act_34 (by decide) ?_
        exact ev_iret (pc := 57) ⟨Nat.le_of_ble_eq_true rfl, Nat.le_of_ble_eq_true rfl⟩ d_mo_act_57 rfl (vp_nar_int _) h_37
    · have h_6 := h_3.2 c_4
      refine ev_iconst (v := 0) (pc := 22) d_mo_act_22 kc_i_0 ?_
      exact ev_iret (pc := 23) ⟨Nat.le_of_ble_eq_true rfl, Nat.le_of_ble_eq_true rfl⟩ d_mo_act_23 rfl (vp_nar_int _) h_6
theorem b_mo_burns_0 {E : gp_E} {S : gp_S} {X : gp_H} {Q : Option Value → gp_H → Prop} {x1 : Int32} {x2 : Int32} (hX : Lay S X)  (hh : (vp_in x1 12 ∧ ((¬ (gI X 65 (Int32.toNatClampNeg x1)) = 2 → ((¬ (gI X 65 (Int32.toNatClampNeg x1)) = 3 → (∃ Qz_7, Ev E m_mo_burnsRing 0 [(0, .ref 55), (1, .int x1), (2, .int x2)] [] X (0, 0) Qz_7 ∧ ∀ r X_10, Qz_7 r X_10 → ∃ v_15 : Int32, r = some (.int v_15) ∧ Lay S X_10 ∧ Q (some (.int v_15)) X_10)) ∧ ((gI X 65 (Int32.toNatClampNeg x1)) = 3 → (∃ Qz_16, Ev E m_mo_body 0 [(0, .ref 55), (1, .int 40)] [] X (0, 0) Qz_16 ∧ ∀ r X_19, Qz_16 r X_19 → (r = none ∧ Lay S X_19 ∧ (∃ Qz_24, Ev E m_mo_burnsRing 0 [(0, .ref 55), (1, .int x1), (2, .int x2)] [] X_19 (0, 0) Qz_24 ∧ ∀ r X_27, Qz_24 r X_27 → ∃ v_32 : Int32, r = some (.int v_32) ∧ Lay S X_27 ∧ Q (some (.int (v_32 ^^^ x1))) X_27)))))) ∧ ((gI X 65 (Int32.toNatClampNeg x1)) = 2 → (∃ Qz_33, Ev E m_mo_body 0 [(0, .ref 55), (1, .int 30)] [] X (0, 0) Qz_33 ∧ ∀ r X_36, Qz_33 r X_36 → (r = none ∧ Lay S X_36 ∧ (∃ Qz_41, Ev E m_mo_burnsRing 0 [(0, .ref 55), (1, .int x1), (2, .int x2)] [] X_36 (0, 0) Qz_41 ∧ ∀ r X_44, Qz_41 r X_44 → ∃ v_49 : Int32, r = some (.int v_49) ∧ Lay S X_44 ∧ Q (some (.int (v_49 * 3))) X_44))))))) : Ev E m_mo_burns 0 [(0, .ref 55), (1, .int x1), (2, .int x2)] [] X (0, 0) Q := by
  refine ev_aload_n (x := 55) (pc := 0) d_mo_burns_0 rfl ?_
  refine ev_getR (pc := 1) d_mo_burns_1 f_mo_42 (ly_at hX 55 rfl) gg_12 rfl (ly_rf hX 55 14 rfl) ?_
  refine ev_iload_n (x := x1) (pc := 4) d_mo_burns_4 rfl ?_
  refine ev_ialdJ (v := (gI X 65 (Int32.toNatClampNeg x1))) (pc := 5) d_mo_burns_5 (ly_at hX 65 rfl) hh.1 rfl ?_
  refine ev_iconst (v := 2) (pc := 6) d_mo_burns_6 kc_i_2 ?_
  refine ev_icmp_ne (pc := 7) (tgt := 25) d_mo_burns_7 (by decide) (fun c_1 => ?_) (fun c_1 => ?_)
  · have h_2 := hh.2.1 c_1
    refine ev_aload_n (x := 55) (pc := 25) d_mo_burns_25 rfl ?_
    refine ev_getR (pc := 26) d_mo_burns_26 f_mo_42 (ly_at hX 55 rfl) gg_12 rfl (ly_rf hX 55 14 rfl) ?_
    refine ev_iload_n (x := x1) (pc := 29) d_mo_burns_29 rfl ?_
    refine ev_ialdJ (v := (gI X 65 (Int32.toNatClampNeg x1))) (pc := 30) d_mo_burns_30 (ly_at hX 65 rfl) hh.1 rfl ?_
    refine ev_iconst (v := 3) (pc := 31) d_mo_burns_31 kc_i_3 ?_
    refine ev_icmp_ne (pc := 32) (tgt := 50) d_mo_burns_32 (by decide) (fun c_4 => ?_) (fun c_4 => ?_)
    · have h_5 := h_2.1 c_4
      refine ev_aload_n (x := 55) (pc := 50) d_mo_burns_50 rfl ?_
      refine ev_iload_n (x := x1) (pc := 51) d_mo_burns_51 rfl ?_
      refine ev_iload_n (x := x2) (pc := 52) d_mo_burns_52 rfl ?_
      obtain ⟨Qz_7, hc_8, hk_9⟩ := h_5
      refine ev_callV (z := m_mo_burnsRing) (as := [.int x1, .int x2]) (rest := []) (pc := 53) d_mo_burns_53 (ly_at hX 55 rfl) lt13_12 rfl l_mo_376 i_mo_burnsRing v_mo_burnsRing o_mo_burnsRing rfl rfl (Nat.le_of_ble_eq_true rfl) rfl (Nat.le_of_ble_eq_true rfl) ⟨Nat.le_of_ble_eq_true rfl, Nat.le_of_ble_eq_true rfl⟩ hc_8 (fun r_11 X_10 hq_12 => ?_)
      obtain ⟨v_15, rfl, hX_14, h_13⟩ := hk_9 _ _ hq_12
      show Ev E m_mo_burns 56 [(0, .ref 55), (1, .int x1), (2, .int x2)] [.int v_15] X_10 (0, 0) Q
      exact ev_iret (pc := 56) ⟨Nat.le_of_ble_eq_true rfl, Nat.le_of_ble_eq_true rfl⟩ d_mo_burns_56 rfl (vp_nar_int _) h_13
    · have h_6 := h_2.2 c_4
      refine ev_aload_n (x := 55) (pc := 35) d_mo_burns_35 rfl ?_
      refine ev_bipush (v := 40) (pc := 36) d_mo_burns_36 kc_b_40 ?_
      obtain ⟨Qz_16, hc_17, hk_18⟩ := h_6
      refine ev_callV (z := m_mo_body) (as := [.int 40]) (rest := []) (pc := 38) d_mo_burns_38 (ly_at hX 55 rfl) lt13_12 rfl l_mo_373 i_mo_body v_mo_body o_mo_body rfl rfl (Nat.le_of_ble_eq_true rfl) rfl (Nat.le_of_ble_eq_true rfl) ⟨Nat.le_of_ble_eq_true rfl, Nat.le_of_ble_eq_true rfl⟩ hc_17 (fun r_20 X_19 hq_21 => ?_)
      obtain ⟨rfl, hX_23, h_22⟩ := hk_18 _ _ hq_21
      show Ev E m_mo_burns 41 [(0, .ref 55), (1, .int x1), (2, .int x2)] [] X_19 (0, 0) Q
      refine ev_aload_n (x := 55) (pc := 41) d_mo_burns_41 rfl ?_
      refine ev_iload_n (x := x1) (pc := 42) d_mo_burns_42 rfl ?_
      refine ev_iload_n (x := x2) (pc := 43) d_mo_burns_43 rfl ?_
      obtain ⟨Qz_24, hc_25, hk_26⟩ := h_22
      refine ev_callV (z := m_mo_burnsRing) (as := [.int x1, .int x2]) (rest := []) (pc := 44) d_mo_burns_44 (ly_at hX_23 55 rfl) lt13_12 rfl l_mo_376 i_mo_burnsRing v_mo_burnsRing o_mo_burnsRing rfl rfl (Nat.le_of_ble_eq_true rfl) rfl (Nat.le_of_ble_eq_true rfl) ⟨Nat.le_of_ble_eq_true rfl, Nat.le_of_ble_eq_true rfl⟩ hc_25 (fun r_28 X_27 hq_29 => ?_)
      obtain ⟨v_32, rfl, hX_31, h_30⟩ := hk_26 _ _ hq_29
      show Ev E m_mo_burns 47 [(0, .ref 55), (1, .int x1), (2, .int x2)] [.int v_32] X_27 (0, 0) Q
      refine ev_iload_n (x := x1) (pc := 47) d_mo_burns_47 rfl ?_
      refine ev_ixor (pc := 48) d_mo_burns_48 ?_
      exact ev_iret (pc := 49) ⟨Nat.le_of_ble_eq_true rfl, Nat.le_of_ble_eq_true rfl⟩ d_mo_burns_49 rfl (vp_nar_int _) h_30
  · have h_3 := hh.2.2 c_1
    refine ev_aload_n (x := 55) (pc := 10) d_mo_burns_10 rfl ?_
    refine ev_bipush (v := 30) (pc := 11) d_mo_burns_11 kc_b_30 ?_
    obtain ⟨Qz_33, hc_34, hk_35⟩ := h_3
    refine ev_callV (z := m_mo_body) (as := [.int 30]) (rest := []) (pc := 13) d_mo_burns_13 (ly_at hX 55 rfl) lt13_12 rfl l_mo_373 i_mo_body v_mo_body o_mo_body rfl rfl (Nat.le_of_ble_eq_true rfl) rfl (Nat.le_of_ble_eq_true rfl) ⟨Nat.le_of_ble_eq_true rfl, Nat.le_of_ble_eq_true rfl⟩ hc_34 (fun r_37 X_36 hq_38 => ?_)
    obtain ⟨rfl, hX_40, h_39⟩ := hk_35 _ _ hq_38
    show Ev E m_mo_burns 16 [(0, .ref 55), (1, .int x1), (2, .int x2)] [] X_36 (0, 0) Q
    refine ev_aload_n (x := 55) (pc := 16) d_mo_burns_16 rfl ?_
    refine ev_iload_n (x := x1) (pc := 17) d_mo_burns_17 rfl ?_
    refine ev_iload_n (x := x2) (pc := 18) d_mo_burns_18 rfl ?_
    obtain ⟨Qz_41, hc_42, hk_43⟩ := h_39
    refine ev_callV (z := m_mo_burnsRing) (as := [.int x1, .int x2]) (rest := []) (pc := 19) d_mo_burns_19 (ly_at hX_40 55 rfl) lt13_12 rfl l_mo_376 i_mo_burnsRing v_mo_burnsRing o_mo_burnsRing rfl rfl (Nat.le_of_ble_eq_true rfl) rfl (Nat.le_of_ble_eq_true rfl) ⟨Nat.le_of_ble_eq_true rfl, Nat.le_of_ble_eq_true rfl⟩ hc_42 (fun r_45 X_44 hq_46 => ?_)
    obtain ⟨v_49, rfl, hX_48, h_47⟩ := hk_43 _ _ hq_46
    show Ev E m_mo_burns 22 [(0, .ref 55), (1, .int x1), (2, .int x2)] [.int v_49] X_44 (0, 0) Q
    refine ev_iconst (v := 3) (pc := 22) d_mo_burns_22 kc_i_3 ?_
    refine ev_imul (pc := 23) d_mo_burns_23 ?_
    exact ev_iret (pc := 24) ⟨Nat.le_of_ble_eq_true rfl, Nat.le_of_ble_eq_true rfl⟩ d_mo_burns_24 rfl (vp_nar_int _) h_47
theorem b_mo_body_0 {E : gp_E} {S : gp_S} {X : gp_H} {Q : Option Value → gp_H → Prop} {x1 : Int32} (hX : Lay S X)  (hh : ((20 ≤ (gI X 55 65) → Ev E m_mo_body 19 [(0, .ref 55), (1, .int x1)] [] X (0, 0) Q) ∧ (¬ 20 ≤ (gI X 55 65) → (vp_in (gI X 55 65) 20 ∧ Ev E m_mo_body 19 [(0, .ref 55), (1, .int x1)] [] (gp_sI X 103 (Int32.toNatClampNeg (gI X 55 65)) x1) (0, 0) Q)))) : Ev E m_mo_body 0 [(0, .ref 55), (1, .int x1)] [] X (0, 0) Q := by
  refine ev_aload_n (x := 55) (pc := 0) d_mo_body_0 rfl ?_
  refine ev_getJ (v := (gI X 55 65)) (pc := 1) d_mo_body_1 f_mo_370 (ly_at hX 55 rfl) gg_12 rfl rfl ?_
  refine ev_bipush (v := 20) (pc := 4) d_mo_body_4 kc_b_20 ?_
  refine ev_icmp_ge (pc := 6) (tgt := 19) d_mo_body_6 (by decide) (fun c_1 => ?_) (fun c_1 => ?_)
  · have h_2 := hh.1 c_1
    exact h_2
  · have h_3 := hh.2 c_1
    refine ev_aload_n (x := 55) (pc := 9) d_mo_body_9 rfl ?_
    refine ev_getR (pc := 10) d_mo_body_10 f_mo_159 (ly_at hX 55 rfl) gg_12 rfl (ly_rf hX 55 66 rfl) ?_
    refine ev_aload_n (x := 55) (pc := 13) d_mo_body_13 rfl ?_
    refine ev_getJ (v := (gI X 55 65)) (pc := 14) d_mo_body_14 f_mo_370 (ly_at hX 55 rfl) gg_12 rfl rfl ?_
    refine ev_iload_n (x := x1) (pc := 17) d_mo_body_17 rfl ?_
    refine ev_iast (pc := 18) d_mo_body_18 (ly_at hX 103 rfl) h_3.1 ?_
    exact h_3.2
theorem b_mo_body_19 {E : gp_E} {S : gp_S} {X : gp_H} {Q : Option Value → gp_H → Prop} {x1 : Int32} (hX : Lay S X)  (hh : Q none (gp_sI X 55 65 ((gI X 55 65) + 1))) : Ev E m_mo_body 19 [(0, .ref 55), (1, .int x1)] [] X (0, 0) Q := by
  refine ev_aload_n (x := 55) (pc := 19) d_mo_body_19 rfl ?_
  refine ev_dup (pc := 20) d_mo_body_20 rfl ?_
  refine ev_getJ (v := (gI X 55 65)) (pc := 21) d_mo_body_21 f_mo_370 (ly_at hX 55 rfl) gg_12 rfl rfl ?_
  refine ev_iconst (v := 1) (pc := 24) d_mo_body_24 kc_i_1 ?_
  refine ev_iadd (pc := 25) d_mo_body_25 ?_
  refine ev_putI (pc := 26) d_mo_body_26 f_mo_370 (ly_at hX 55 rfl) gg_12 rfl (Or.inl rfl) (vp_nar_int _) rfl ?_
  exact ev_ret (pc := 29) ⟨Nat.le_of_ble_eq_true rfl, Nat.le_of_ble_eq_true rfl⟩ d_mo_body_29 rfl hh
theorem b_mo_burnsRing_0 {E : gp_E} {S : gp_S} {X : gp_H} {Q : Option Value → gp_H → Prop} {x1 : Int32} {x2 : Int32} (hX : Lay S X)  (hh : (∃ Qz_1, Ev E m_mo_body 0 [(0, .ref 55), (1, .int 10)] [] X (0, 0) Qz_1 ∧ ∀ r X_4, Qz_1 r X_4 → (r = none ∧ Lay S X_4 ∧ (vp_in x1 12 ∧ Q (some (.int (x2 + (gI X_4 67 (Int32.toNatClampNeg x1))))) X_4)))) : Ev E m_mo_burnsRing 0 [(0, .ref 55), (1, .int x1), (2, .int x2)] [] X (0, 0) Q := by
  refine ev_aload_n (x := 55) (pc := 0) d_mo_burnsRing_0 rfl ?_
  refine ev_bipush (v := 10) (pc := 1) d_mo_burnsRing_1 kc_b_10 ?_
  obtain ⟨Qz_1, hc_2, hk_3⟩ := hh
  refine ev_callV (z := m_mo_body) (as := [.int 10]) (rest := []) (pc := 3) d_mo_burnsRing_3 (ly_at hX 55 rfl) lt13_12 rfl l_mo_373 i_mo_body v_mo_body o_mo_body rfl rfl (Nat.le_of_ble_eq_true rfl) rfl (Nat.le_of_ble_eq_true rfl) ⟨Nat.le_of_ble_eq_true rfl, Nat.le_of_ble_eq_true rfl⟩ hc_2 (fun r_5 X_4 hq_6 => ?_)
  obtain ⟨rfl, hX_8, h_7⟩ := hk_3 _ _ hq_6
  show Ev E m_mo_burnsRing 6 [(0, .ref 55), (1, .int x1), (2, .int x2)] [] X_4 (0, 0) Q
  refine ev_iload_n (x := x2) (pc := 6) d_mo_burnsRing_6 rfl ?_
  refine ev_aload_n (x := 55) (pc := 7) d_mo_burnsRing_7 rfl ?_
  refine ev_getR (pc := 8) d_mo_burnsRing_8 f_mo_48 (ly_at hX_8 55 rfl) gg_12 rfl (ly_rf hX_8 55 16 rfl) ?_
  refine ev_iload_n (x := x1) (pc := 11) d_mo_burnsRing_11 rfl ?_
  refine ev_ialdJ (v := (gI X_4 67 (Int32.toNatClampNeg x1))) (pc := 12) d_mo_burnsRing_12 (ly_at hX_8 67 rfl) h_7.1 rfl ?_
  refine ev_iadd (pc := 13) d_mo_burnsRing_13 ?_
  exact ev_iret (pc := 14) ⟨Nat.le_of_ble_eq_true rfl, Nat.le_of_ble_eq_true rfl⟩ d_mo_burnsRing_14 rfl (vp_nar_int _) h_7.2
theorem b_mo_warms_0 {E : gp_E} {S : gp_S} {X : gp_H} {Q : Option Value → gp_H → Prop} {x1 : Int32} {x2 : Int32} (hX : Lay S X)  (hh : (vp_in x1 12 ∧ (((gI X 65 (Int32.toNatClampNeg x1)) = 1 → Ev E m_mo_warms 20 [(0, .ref 55), (1, .int x1), (2, .int x2)] [] X (0, 0) Q) ∧ (¬ (gI X 65 (Int32.toNatClampNeg x1)) = 1 → ((¬ (gI X 65 (Int32.toNatClampNeg x1)) = 2 → ((¬ (gI X 65 (Int32.toNatClampNeg x1)) = 3 → (∃ Qz_10, Ev E m_mo_warmsRing 0 [(0, .ref 55), (1, .int x1), (2, .int x2)] [] X (0, 0) Qz_10 ∧ ∀ r X_13, Qz_10 r X_13 → ∃ v_18 : Int32, r = some (.int v_18) ∧ Lay S X_13 ∧ Q (some (.int v_18)) X_13)) ∧ ((gI X 65 (Int32.toNatClampNeg x1)) = 3 → (∃ Qz_19, Ev E m_mo_body 0 [(0, .ref 55), (1, .int 41)] [] X (0, 0) Qz_19 ∧ ∀ r X_22, Qz_19 r X_22 → (r = none ∧ Lay S X_22 ∧ (∃ Qz_27, Ev E m_mo_warmsRing 0 [(0, .ref 55), (1, .int x1), (2, .int x2)] [] X_22 (0, 0) Qz_27 ∧ ∀ r X_30, Qz_27 r X_30 → ∃ v_35 : Int32, r = some (.int v_35) ∧ Lay S X_30 ∧ (∃ Qz_36, Ev E m_mo_burns 0 [(0, .ref 55), (1, .int x1), (2, .int x2)] [] X_30 (0, 0) Qz_36 ∧ ∀ r X_39, Qz_36 r X_39 → ∃ v_44 : Int32, r = some (.int v_44) ∧ Lay S X_39 ∧ Q (some (.int (v_35 + v_44))) X_39))))))) ∧ ((gI X 65 (Int32.toNatClampNeg x1)) = 2 → Ev E m_mo_warms 20 [(0, .ref 55), (1, .int x1), (2, .int x2)] [] X (0, 0) Q)))))) : Ev E m_mo_warms 0 [(0, .ref 55), (1, .int x1), (2, .int x2)] [] X (0, 0) Q := by
  refine ev_aload_n (x := 55) (pc := 0) d_mo_warms_0 rfl ?_
  refine ev_getR (pc := 1) d_mo_warms_1 f_mo_42 (ly_at hX 55 rfl) gg_12 rfl (ly_rf hX 55 14 rfl) ?_
  refine ev_iload_n (x := x1) (pc := 4) d_mo_warms_4 rfl ?_
  refine ev_ialdJ (v := (gI X 65 (Int32.toNatClampNeg x1))) (pc := 5) d_mo_warms_5 (ly_at hX 65 rfl) hh.1 rfl ?_
  refine ev_iconst (v := 1) (pc := 6) d_mo_warms_6 kc_i_1 ?_
  refine ev_icmp_eq (pc := 7) (tgt := 20) d_mo_warms_7 (by decide) (fun c_1 => ?_) (fun c_1 => ?_)
  · have h_2 := hh.2.1 c_1
    exact h_2
  · have h_3 := hh.2.2 c_1
    refine ev_aload_n (x := 55) (pc := 10) d_mo_warms_10 rfl ?_
    refine ev_getR (pc := 11) d_mo_warms_11 f_mo_42 (ly_at hX 55 rfl) gg_12 rfl (ly_rf hX 55 14 rfl) ?_
    refine ev_iload_n (x := x1) (pc := 14) d_mo_warms_14 rfl ?_
    refine ev_ialdJ (v := (gI X 65 (Int32.toNatClampNeg x1))) (pc := 15) d_mo_warms_15 (ly_at hX 65 rfl) hh.1 rfl ?_
    refine ev_iconst (v := 2) (pc := 16) d_mo_warms_16 kc_i_2 ?_
    refine ev_icmp_ne (pc := 17) (tgt := 35) d_mo_warms_17 (by decide) (fun c_4 => ?_) (fun c_4 => ?_)
    · have h_5 := h_3.1 c_4
      refine ev_aload_n (x := 55) (pc := 35) d_mo_warms_35 rfl ?_
      refine ev_getR (pc := 36) d_mo_warms_36 f_mo_42 (ly_at hX 55 rfl) gg_12 rfl (ly_rf hX 55 14 rfl) ?_
      refine ev_iload_n (x := x1) (pc := 39) d_mo_warms_39 rfl ?_
      refine ev_ialdJ (v := (gI X 65 (Int32.toNatClampNeg x1))) (pc := 40) d_mo_warms_40 (ly_at hX 65 rfl) hh.1 rfl ?_
      refine ev_iconst (v := 3) (pc := 41) d_mo_warms_41 kc_i_3 ?_
      refine ev_icmp_ne (pc := 42) (tgt := 67) d_mo_warms_42 (by decide) (fun c_7 => ?_) (fun c_7 => ?_)
      · have h_8 := h_5.1 c_7
        refine ev_aload_n (x := 55) (pc := 67) d_mo_warms_67 rfl ?_
        refine ev_iload_n (x := x1) (pc := 68) d_mo_warms_68 rfl ?_
        refine ev_iload_n (x := x2) (pc := 69) d_mo_warms_69 rfl ?_
        obtain ⟨Qz_10, hc_11, hk_12⟩ := h_8
        refine ev_callV (z := m_mo_warmsRing) (as := [.int x1, .int x2]) (rest := []) (pc := 70) d_mo_warms_70 (ly_at hX 55 rfl) lt13_12 rfl l_mo_382 i_mo_warmsRing v_mo_warmsRing o_mo_warmsRing rfl rfl (Nat.le_of_ble_eq_true rfl) rfl (Nat.le_of_ble_eq_true rfl) ⟨Nat.le_of_ble_eq_true rfl, Nat.le_of_ble_eq_true rfl⟩ hc_11 (fun r_14 X_13 hq_15 => ?_)
        obtain ⟨v_18, rfl, hX_17, h_16⟩ := hk_12 _ _ hq_15
        show Ev E m_mo_warms 73 [(0, .ref 55), (1, .int x1), (2, .int x2)] [.int v_18] X_13 (0, 0) Q
        exact ev_iret (pc := 73) ⟨Nat.le_of_ble_eq_true rfl, Nat.le_of_ble_eq_true rfl⟩ d_mo_warms_73 rfl (vp_nar_int _) h_16
      · have h_9 := h_5.2 c_7
        refine ev_aload_n (x := 55) (pc := 45) d_mo_warms_45 rfl ?_
        refine ev_bipush (v := 41) (pc := 46) d_mo_warms_46 kc_b_41 ?_
        obtain ⟨Qz_19, hc_20, hk_21⟩ := h_9
        refine ev_callV (z := m_mo_body) (as := [.int 41]) (rest := []) (pc := 48) d_mo_warms_48 (ly_at hX 55 rfl) lt13_12 rfl l_mo_373 i_mo_body v_mo_body o_mo_body rfl rfl (Nat.le_of_ble_eq_true rfl) rfl (Nat.le_of_ble_eq_true rfl) ⟨Nat.le_of_ble_eq_true rfl, Nat.le_of_ble_eq_true rfl⟩ hc_20 (fun r_23 X_22 hq_24 => ?_)
        obtain ⟨rfl, hX_26, h_25⟩ := hk_21 _ _ hq_24
        show Ev E m_mo_warms 51 [(0, .ref 55), (1, .int x1), (2, .int x2)] [] X_22 (0, 0) Q
        refine ev_aload_n (x := 55) (pc := 51) d_mo_warms_51 rfl ?_
        refine ev_iload_n (x := x1) (pc := 52) d_mo_warms_52 rfl ?_
        refine ev_iload_n (x := x2) (pc := 53) d_mo_warms_53 rfl ?_
        obtain ⟨Qz_27, hc_28, hk_29⟩ := h_25
        refine ev_callV (z := m_mo_warmsRing) (as := [.int x1, .int x2]) (rest := []) (pc := 54) d_mo_warms_54 (ly_at hX_26 55 rfl) lt13_12 rfl l_mo_382 i_mo_warmsRing v_mo_warmsRing o_mo_warmsRing rfl rfl (Nat.le_of_ble_eq_true rfl) rfl (Nat.le_of_ble_eq_true rfl) ⟨Nat.le_of_ble_eq_true rfl, Nat.le_of_ble_eq_true rfl⟩ hc_28 (fun r_31 X_30 hq_32 => ?_)
        obtain ⟨v_35, rfl, hX_34, h_33⟩ := hk_29 _ _ hq_32
        show Ev E m_mo_warms 57 [(0, .ref 55), (1, .int x1), (2, .int x2)] [.int v_35] X_30 (0, 0) Q
        refine ev_istore_n (L2 := [(0, .ref 55), (1, .int x1), (2, .int x2), (3, .int v_35)]) (pc := 57) d_mo_warms_57 rfl (Nat.le_of_ble_eq_true rfl) rfl ?_
        refine ev_iload_n (x := v_35) (pc := 58) d_mo_warms_58 rfl ?_
        refine ev_aload_n (x := 55) (pc := 59) d_mo_warms_59 rfl ?_
        refine ev_iload_n (x := x1) (pc := 60) d_mo_warms_60 rfl ?_
        refine ev_iload_n (x := x2) (pc := 61) d_mo_warms_61 rfl ?_
        obtain ⟨Qz_36, hc_37, hk_38⟩ := h_33
        refine ev_callV (z := m_mo_burns) (as := [.int x1, .int x2]) (rest := [.int v_35]) (pc := 62) d_mo_warms_62 (ly_at hX_34 55 rfl) lt13_12 rfl l_mo_379 i_mo_burns v_mo_burns o_mo_burns rfl rfl (Nat.le_of_ble_eq_true rfl) rfl (Nat.le_of_ble_eq_true rfl) ⟨Nat.le_of_ble_eq_true rfl, Nat.le_of_ble_eq_true rfl⟩ hc_37 (fun r_40 X_39 hq_41 => ?_)
        obtain ⟨v_44, rfl, hX_43, h_42⟩ := hk_38 _ _ hq_41
        show Ev E m_mo_warms 65 [(0, .ref 55), (1, .int x1), (2, .int x2), (3, .int v_35)] [.int v_44, .int v_35] X_39 (0, 0) Q
        refine ev_iadd (pc := 65) d_mo_warms_65 ?_
        exact ev_iret (pc := 66) ⟨Nat.le_of_ble_eq_true rfl, Nat.le_of_ble_eq_true rfl⟩ d_mo_warms_66 rfl (vp_nar_int _) h_42
    · have h_6 := h_3.2 c_4
      exact h_6
theorem b_mo_warms_20 {E : gp_E} {S : gp_S} {X : gp_H} {Q : Option Value → gp_H → Prop} {x1 : Int32} {x2 : Int32} (hX : Lay S X)  (hh : (∃ Qz_1, Ev E m_mo_body 0 [(0, .ref 55), (1, .int 20)] [] X (0, 0) Qz_1 ∧ ∀ r X_4, Qz_1 r X_4 → (r = none ∧ Lay S X_4 ∧ (∃ Qz_9, Ev E m_mo_warmsRing 0 [(0, .ref 55), (1, .int x1), (2, .int x2)] [] X_4 (0, 0) Qz_9 ∧ ∀ r X_12, Qz_9 r X_12 → ∃ v_17 : Int32, r = some (.int v_17) ∧ Lay S X_12 ∧ Q (some (.int (v_17 - x1))) X_12)))) : Ev E m_mo_warms 20 [(0, .ref 55), (1, .int x1), (2, .int x2)] [] X (0, 0) Q := by
  refine ev_aload_n (x := 55) (pc := 20) d_mo_warms_20 rfl ?_
  refine ev_bipush (v := 20) (pc := 21) d_mo_warms_21 kc_b_20 ?_
  obtain ⟨Qz_1, hc_2, hk_3⟩ := hh
  refine ev_callV (z := m_mo_body) (as := [.int 20]) (rest := []) (pc := 23) d_mo_warms_23 (ly_at hX 55 rfl) lt13_12 rfl l_mo_373 i_mo_body v_mo_body o_mo_body rfl rfl (Nat.le_of_ble_eq_true rfl) rfl (Nat.le_of_ble_eq_true rfl) ⟨Nat.le_of_ble_eq_true rfl, Nat.le_of_ble_eq_true rfl⟩ hc_2 (fun r_5 X_4 hq_6 => ?_)
  obtain ⟨rfl, hX_8, h_7⟩ := hk_3 _ _ hq_6
  show Ev E m_mo_warms 26 [(0, .ref 55), (1, .int x1), (2, .int x2)] [] X_4 (0, 0) Q
  refine ev_aload_n (x := 55) (pc := 26) d_mo_warms_26 rfl ?_
  refine ev_iload_n (x := x1) (pc := 27) d_mo_warms_27 rfl ?_
  refine ev_iload_n (x := x2) (pc := 28) d_mo_warms_28 rfl ?_
  obtain ⟨Qz_9, hc_10, hk_11⟩ := h_7
  refine ev_callV (z := m_mo_warmsRing) (as := [.int x1, .int x2]) (rest := []) (pc := 29) d_mo_warms_29 (ly_at hX_8 55 rfl) lt13_12 rfl l_mo_382 i_mo_warmsRing v_mo_warmsRing o_mo_warmsRing rfl rfl (Nat.le_of_ble_eq_true rfl) rfl (Nat.le_of_ble_eq_true rfl) ⟨Nat.le_of_ble_eq_true rfl, Nat.le_of_ble_eq_true rfl⟩ hc_10 (fun r_13 X_12 hq_14 => ?_)
  obtain ⟨v_17, rfl, hX_16, h_15⟩ := hk_11 _ _ hq_14
  show Ev E m_mo_warms 32 [(0, .ref 55), (1, .int x1), (2, .int x2)] [.int v_17] X_12 (0, 0) Q
  refine ev_iload_n (x := x1) (pc := 32) d_mo_warms_32 rfl ?_
  refine ev_isub (pc := 33) d_mo_warms_33 ?_
  exact ev_iret (pc := 34) ⟨Nat.le_of_ble_eq_true rfl, Nat.le_of_ble_eq_true rfl⟩ d_mo_warms_34 rfl (vp_nar_int _) h_15
theorem b_mo_warmsRing_0 {E : gp_E} {S : gp_S} {X : gp_H} {Q : Option Value → gp_H → Prop} {x1 : Int32} {x2 : Int32} (hX : Lay S X)  (hh : (∃ Qz_1, Ev E m_mo_body 0 [(0, .ref 55), (1, .int 11)] [] X (0, 0) Qz_1 ∧ ∀ r X_4, Qz_1 r X_4 → (r = none ∧ Lay S X_4 ∧ (∃ Qz_9, Ev E m_mo_burns 0 [(0, .ref 55), (1, .int x1), (2, .int x2)] [] X_4 (0, 0) Qz_9 ∧ ∀ r X_12, Qz_9 r X_12 → ∃ v_17 : Int32, r = some (.int v_17) ∧ Lay S X_12 ∧ Q (some (.int (v_17 * 2))) X_12)))) : Ev E m_mo_warmsRing 0 [(0, .ref 55), (1, .int x1), (2, .int x2)] [] X (0, 0) Q := by
  refine ev_aload_n (x := 55) (pc := 0) d_mo_warmsRing_0 rfl ?_
  refine ev_bipush (v := 11) (pc := 1) d_mo_warmsRing_1 kc_b_11 ?_
  obtain ⟨Qz_1, hc_2, hk_3⟩ := hh
  refine ev_callV (z := m_mo_body) (as := [.int 11]) (rest := []) (pc := 3) d_mo_warmsRing_3 (ly_at hX 55 rfl) lt13_12 rfl l_mo_373 i_mo_body v_mo_body o_mo_body rfl rfl (Nat.le_of_ble_eq_true rfl) rfl (Nat.le_of_ble_eq_true rfl) ⟨Nat.le_of_ble_eq_true rfl, Nat.le_of_ble_eq_true rfl⟩ hc_2 (fun r_5 X_4 hq_6 => ?_)
  obtain ⟨rfl, hX_8, h_7⟩ := hk_3 _ _ hq_6
  show Ev E m_mo_warmsRing 6 [(0, .ref 55), (1, .int x1), (2, .int x2)] [] X_4 (0, 0) Q
  refine ev_aload_n (x := 55) (pc := 6) d_mo_warmsRing_6 rfl ?_
  refine ev_iload_n (x := x1) (pc := 7) d_mo_warmsRing_7 rfl ?_
  refine ev_iload_n (x := x2) (pc := 8) d_mo_warmsRing_8 rfl ?_
  obtain ⟨Qz_9, hc_10, hk_11⟩ := h_7
  refine ev_callV (z := m_mo_burns) (as := [.int x1, .int x2]) (rest := []) (pc := 9) d_mo_warmsRing_9 (ly_at hX_8 55 rfl) lt13_12 rfl l_mo_379 i_mo_burns v_mo_burns o_mo_burns rfl rfl (Nat.le_of_ble_eq_true rfl) rfl (Nat.le_of_ble_eq_true rfl) ⟨Nat.le_of_ble_eq_true rfl, Nat.le_of_ble_eq_true rfl⟩ hc_10 (fun r_13 X_12 hq_14 => ?_)
  obtain ⟨v_17, rfl, hX_16, h_15⟩ := hk_11 _ _ hq_14
  show Ev E m_mo_warmsRing 12 [(0, .ref 55), (1, .int x1), (2, .int x2)] [.int v_17] X_12 (0, 0) Q
  refine ev_iconst (v := 2) (pc := 12) d_mo_warmsRing_12 kc_i_2 ?_
  refine ev_imul (pc := 13) d_mo_warmsRing_13 ?_
  exact ev_iret (pc := 14) ⟨Nat.le_of_ble_eq_true rfl, Nat.le_of_ble_eq_true rfl⟩ d_mo_warmsRing_14 rfl (vp_nar_int _) h_15
theorem b_mo_fitsBody_0 {E : gp_E} {S : gp_S} {X : gp_H} {Q : Option Value → gp_H → Prop} {x1 : Int32} {x2 : Int32} (hX : Lay S X)  (hh : (vp_in x1 12 ∧ ((¬ (gI X 65 (Int32.toNatClampNeg x1)) = 2 → (∃ Qz_4, Ev E m_mo_fitsRing 0 [(0, .ref 55), (1, .int x1), (2, .int x2)] [] X (0, 0) Qz_4 ∧ ∀ r X_7, Qz_4 r X_7 → ∃ v_12 : Int32, r = some (.int v_12) ∧ Lay S X_7 ∧ Q (some (.int v_12)) X_7)) ∧ ((gI X 65 (Int32.toNatClampNeg x1)) = 2 → (∃ Qz_13, Ev E m_mo_body 0 [(0, .ref 55), (1, .int 31)] [] X (0, 0) Qz_13 ∧ ∀ r X_16, Qz_13 r X_16 → (r = none ∧ Lay S X_16 ∧ (∃ Qz_21, Ev E m_mo_fitsRing 0 [(0, .ref 55), (1, .int x1), (2, .int (x2 - 1))] [] X_16 (0, 0) Qz_21 ∧ ∀ r X_24, Qz_21 r X_24 → ∃ v_29 : Int32, r = some (.int v_29) ∧ Lay S X_24 ∧ Q (some (.int v_29)) X_24))))))) : Ev E m_mo_fitsBody 0 [(0, .ref 55), (1, .int x1), (2, .int x2)] [] X (0, 0) Q := by
  refine ev_aload_n (x := 55) (pc := 0) d_mo_fitsBody_0 rfl ?_
  refine ev_getR (pc := 1) d_mo_fitsBody_1 f_mo_42 (ly_at hX 55 rfl) gg_12 rfl (ly_rf hX 55 14 rfl) ?_
  refine ev_iload_n (x := x1) (pc := 4) d_mo_fitsBody_4 rfl ?_
  refine ev_ialdJ (v := (gI X 65 (Int32.toNatClampNeg x1))) (pc := 5) d_mo_fitsBody_5 (ly_at hX 65 rfl) hh.1 rfl ?_
  refine ev_iconst (v := 2) (pc := 6) d_mo_fitsBody_6 kc_i_2 ?_
  refine ev_icmp_ne (pc := 7) (tgt := 25) d_mo_fitsBody_7 (by decide) (fun c_1 => ?_) (fun c_1 => ?_)
  · have h_2 := hh.2.1 c_1
    refine ev_aload_n (x := 55) (pc := 25) d_mo_fitsBody_25 rfl ?_
    refine ev_iload_n (x := x1) (pc := 26) d_mo_fitsBody_26 rfl ?_
    refine ev_iload_n (x := x2) (pc := 27) d_mo_fitsBody_27 rfl ?_
    obtain ⟨Qz_4, hc_5, hk_6⟩ := h_2
    refine ev_callV (z := m_mo_fitsRing) (as := [.int x1, .int x2]) (rest := []) (pc := 28) d_mo_fitsBody_28 (ly_at hX 55 rfl) lt13_12 rfl l_mo_388 i_mo_fitsRing v_mo_fitsRing o_mo_fitsRing rfl rfl (Nat.le_of_ble_eq_true rfl) rfl (Nat.le_of_ble_eq_true rfl) ⟨Nat.le_of_ble_eq_true rfl, Nat.le_of_ble_eq_true rfl⟩ hc_5 (fun r_8 X_7 hq_9 => ?_)
    obtain ⟨v_12, rfl, hX_11, h_10⟩ := hk_6 _ _ hq_9
    show Ev E m_mo_fitsBody 31 [(0, .ref 55), (1, .int x1), (2, .int x2)] [.int v_12] X_7 (0, 0) Q
    exact ev_iret (pc := 31) ⟨Nat.le_of_ble_eq_true rfl, Nat.le_of_ble_eq_true rfl⟩ d_mo_fitsBody_31 rfl (vp_nar_int _) h_10
  · have h_3 := hh.2.2 c_1
    refine ev_aload_n (x := 55) (pc := 10) d_mo_fitsBody_10 rfl ?_
    refine ev_bipush (v := 31) (pc := 11) d_mo_fitsBody_11 kc_b_31 ?_
    obtain ⟨Qz_13, hc_14, hk_15⟩ := h_3
    refine ev_callV (z := m_mo_body) (as := [.int 31]) (rest := []) (pc := 13) d_mo_fitsBody_13 (ly_at hX 55 rfl) lt13_12 rfl l_mo_373 i_mo_body v_mo_body o_mo_body rfl rfl (Nat.le_of_ble_eq_true rfl) rfl (Nat.le_of_ble_eq_true rfl) ⟨Nat.le_of_ble_eq_true rfl, Nat.le_of_ble_eq_true rfl⟩ hc_14 (fun r_17 X_16 hq_18 => ?_)
    obtain ⟨rfl, hX_20, h_19⟩ := hk_15 _ _ hq_18
    show Ev E m_mo_fitsBody 16 [(0, .ref 55), (1, .int x1), (2, .int x2)] [] X_16 (0, 0) Q
    refine ev_aload_n (x := 55) (pc := 16) d_mo_fitsBody_16 rfl ?_
    refine ev_iload_n (x := x1) (pc := 17) d_mo_fitsBody_17 rfl ?_
    refine ev_iload_n (x := x2) (pc := 18) d_mo_fitsBody_18 rfl ?_
    refine ev_iconst (v := 1) (pc := 19) d_mo_fitsBody_19 kc_i_1 ?_
    refine ev_isub (pc := 20) d_mo_fitsBody_20 ?_
    obtain ⟨Qz_21, hc_22, hk_23⟩ := h_19
    refine ev_callV (z := m_mo_fitsRing) (as := [.int x1, .int (x2 - 1)]) (rest := []) (pc := 21) d_mo_fitsBody_21 (ly_at hX_20 55 rfl) lt13_12 rfl l_mo_388 i_mo_fitsRing v_mo_fitsRing o_mo_fitsRing rfl rfl (Nat.le_of_ble_eq_true rfl) rfl (Nat.le_of_ble_eq_true rfl) ⟨Nat.le_of_ble_eq_true rfl, Nat.le_of_ble_eq_true rfl⟩ hc_22 (fun r_25 X_24 hq_26 => ?_)
    obtain ⟨v_29, rfl, hX_28, h_27⟩ := hk_23 _ _ hq_26
    show Ev E m_mo_fitsBody 24 [(0, .ref 55), (1, .int x1), (2, .int x2)] [.int v_29] X_24 (0, 0) Q
    exact ev_iret (pc := 24) ⟨Nat.le_of_ble_eq_true rfl, Nat.le_of_ble_eq_true rfl⟩ d_mo_fitsBody_24 rfl (vp_nar_int _) h_27
theorem b_mo_fitsRing_0 {E : gp_E} {S : gp_S} {X : gp_H} {Q : Option Value → gp_H → Prop} {x1 : Int32} {x2 : Int32} (hX : Lay S X)  (hh : (∃ Qz_1, Ev E m_mo_body 0 [(0, .ref 55), (1, .int 12)] [] X (0, 0) Qz_1 ∧ ∀ r X_4, Qz_1 r X_4 → (r = none ∧ Lay S X_4 ∧ (∃ Qz_9, Ev E m_mo_warms 0 [(0, .ref 55), (1, .int x1), (2, .int x2)] [] X_4 (0, 0) Qz_9 ∧ ∀ r X_12, Qz_9 r X_12 → ∃ v_17 : Int32, r = some (.int v_17) ∧ Lay S X_12 ∧ (∃ Qz_18, Ev E m_mo_burns 0 [(0, .ref 55), (1, .int x1), (2, .int (x2 + x1))] [] X_12 (0, 0) Qz_18 ∧ ∀ r X_21, Qz_18 r X_21 → ∃ v_26 : Int32, r = some (.int v_26) ∧ Lay S X_21 ∧ Q (some (.int (v_17 ^^^ v_26))) X_21))))) : Ev E m_mo_fitsRing 0 [(0, .ref 55), (1, .int x1), (2, .int x2)] [] X (0, 0) Q := by
  refine ev_aload_n (x := 55) (pc := 0) d_mo_fitsRing_0 rfl ?_
  refine ev_bipush (v := 12) (pc := 1) d_mo_fitsRing_1 kc_b_12 ?_
  obtain ⟨Qz_1, hc_2, hk_3⟩ := hh
  refine ev_callV (z := m_mo_body) (as := [.int 12]) (rest := []) (pc := 3) d_mo_fitsRing_3 (ly_at hX 55 rfl) lt13_12 rfl l_mo_373 i_mo_body v_mo_body o_mo_body rfl rfl (Nat.le_of_ble_eq_true rfl) rfl (Nat.le_of_ble_eq_true rfl) ⟨Nat.le_of_ble_eq_true rfl, Nat.le_of_ble_eq_true rfl⟩ hc_2 (fun r_5 X_4 hq_6 => ?_)
  obtain ⟨rfl, hX_8, h_7⟩ := hk_3 _ _ hq_6
  show Ev E m_mo_fitsRing 6 [(0, .ref 55), (1, .int x1), (2, .int x2)] [] X_4 (0, 0) Q
  refine ev_aload_n (x := 55) (pc := 6) d_mo_fitsRing_6 rfl ?_
  refine ev_iload_n (x := x1) (pc := 7) d_mo_fitsRing_7 rfl ?_
  refine ev_iload_n (x := x2) (pc := 8) d_mo_fitsRing_8 rfl ?_
  obtain ⟨Qz_9, hc_10, hk_11⟩ := h_7
  refine ev_callV (z := m_mo_warms) (as := [.int x1, .int x2]) (rest := []) (pc := 9) d_mo_fitsRing_9 (ly_at hX_8 55 rfl) lt13_12 rfl l_mo_385 i_mo_warms v_mo_warms o_mo_warms rfl rfl (Nat.le_of_ble_eq_true rfl) rfl (Nat.le_of_ble_eq_true rfl) ⟨Nat.le_of_ble_eq_true rfl, Nat.le_of_ble_eq_true rfl⟩ hc_10 (fun r_13 X_12 hq_14 => ?_)
  obtain ⟨v_17, rfl, hX_16, h_15⟩ := hk_11 _ _ hq_14
  show Ev E m_mo_fitsRing 12 [(0, .ref 55), (1, .int x1), (2, .int x2)] [.int v_17] X_12 (0, 0) Q
  refine ev_istore_n (L2 := [(0, .ref 55), (1, .int x1), (2, .int x2), (3, .int v_17)]) (pc := 12) d_mo_fitsRing_12 rfl (Nat.le_of_ble_eq_true rfl) rfl ?_
  refine ev_iload_n (x := v_17) (pc := 13) d_mo_fitsRing_13 rfl ?_
  refine ev_aload_n (x := 55) (pc := 14) d_mo_fitsRing_14 rfl ?_
  refine ev_iload_n (x := x1) (pc := 15) d_mo_fitsRing_15 rfl ?_
  refine ev_iload_n (x := x2) (pc := 16) d_mo_fitsRing_16 rfl ?_
  refine ev_iload_n (x := x1) (pc := 17) d_mo_fitsRing_17 rfl ?_
  refine ev_iadd (pc := 18) d_mo_fitsRing_18 ?_
  obtain ⟨Qz_18, hc_19, hk_20⟩ := h_15
  refine ev_callV (z := m_mo_burns) (as := [.int x1, .int (x2 + x1)]) (rest := [.int v_17]) (pc := 19) d_mo_fitsRing_19 (ly_at hX_16 55 rfl) lt13_12 rfl l_mo_379 i_mo_burns v_mo_burns o_mo_burns rfl rfl (Nat.le_of_ble_eq_true rfl) rfl (Nat.le_of_ble_eq_true rfl) ⟨Nat.le_of_ble_eq_true rfl, Nat.le_of_ble_eq_true rfl⟩ hc_19 (fun r_22 X_21 hq_23 => ?_)
  obtain ⟨v_26, rfl, hX_25, h_24⟩ := hk_20 _ _ hq_23
  show Ev E m_mo_fitsRing 22 [(0, .ref 55), (1, .int x1), (2, .int x2), (3, .int v_17)] [.int v_26, .int v_17] X_21 (0, 0) Q
  refine ev_ixor (pc := 22) d_mo_fitsRing_22 ?_
  exact ev_iret (pc := 23) ⟨Nat.le_of_ble_eq_true rfl, Nat.le_of_ble_eq_true rfl⟩ d_mo_fitsRing_23 rfl (vp_nar_int _) h_24
theorem b_mo_trace_0 {E : gp_E} {S : gp_S} {X : gp_H} {Q : Option Value → gp_H → Prop} {x1 : Int32} (hX : Lay S X)  (hh : ((20 ≤ (gI X 55 65) → Ev E m_mo_trace 20 [(0, .ref 55), (1, .int x1)] [.int 20, .int 0, .int x1] X (0, 0) Q) ∧ (¬ 20 ≤ (gI X 55 65) → Ev E m_mo_trace 20 [(0, .ref 55), (1, .int x1)] [.int (gI X 55 65), .int 0, .int x1] X (0, 0) Q))) : Ev E m_mo_trace 0 [(0, .ref 55), (1, .int x1)] [] X (0, 0) Q := by
  refine ev_iload_n (x := x1) (pc := 0) d_mo_trace_0 rfl ?_
  refine ev_iconst (v := 0) (pc := 1) d_mo_trace_1 kc_i_0 ?_
  refine ev_aload_n (x := 55) (pc := 2) d_mo_trace_2 rfl ?_
  refine ev_getJ (v := (gI X 55 65)) (pc := 3) d_mo_trace_3 f_mo_370 (ly_at hX 55 rfl) gg_12 rfl rfl ?_
  refine ev_bipush (v := 20) (pc := 6) d_mo_trace_6 kc_b_20 ?_
  refine ev_icmp_ge (pc := 8) (tgt := 18) d_mo_trace_8 (by decide) (fun c_1 => ?_) (fun c_1 => ?_)
  · have h_2 := hh.1 c_1
    refine ev_bipush (v := 20) (pc := 18) d_mo_trace_18 kc_b_20 ?_
    exact h_2
  · have h_3 := hh.2 c_1
    refine ev_aload_n (x := 55) (pc := 11) d_mo_trace_11 rfl ?_
    refine ev_getJ (v := (gI X 55 65)) (pc := 12) d_mo_trace_12 f_mo_370 (ly_at hX 55 rfl) gg_12 rfl rfl ?_
    refine ev_goto (pc := 15) (tgt := 20) d_mo_trace_15 (by decide) ?_
    exact h_3
theorem b_mo_trace_20 {E : gp_E} {S : gp_S} {X : gp_H} {Q : Option Value → gp_H → Prop} {x1 : Int32} {t0 : Int32} {t1 : Int32} {t2 : Int32} (hX : Lay S X)  (hh : (((iw t2 t1 (t0 - 1)) = false → Q (some (.int (-1))) X) ∧ ((iw t2 t1 (t0 - 1)) = true → (vp_in x1 20 ∧ Q (some (.int (gI X 103 (Int32.toNatClampNeg x1)))) X)))) : Ev E m_mo_trace 20 [(0, .ref 55), (1, .int x1)] [.int t0, .int t1, .int t2] X (0, 0) Q := by
  refine ev_iconst (v := 1) (pc := 20) d_mo_trace_20 kc_i_1 ?_
  refine ev_isub (pc := 21) d_mo_trace_21 ?_
  refine ev_callS (z := m_mo_in) (as := [.int t2, .int t1, .int (t0 - 1)]) (rest := []) (pc := 22) d_mo_trace_22 l_mo_196 i_mo_in o_mo_in rfl rfl (Nat.le_of_ble_eq_true rfl) rfl (Nat.le_of_ble_eq_true rfl) ⟨Nat.le_of_ble_eq_true rfl, Nat.le_of_ble_eq_true rfl⟩ (s_mo_in hX t2 t1 (t0 - 1)) (fun r X1 hq => ?_)
  obtain ⟨rfl, rfl⟩ := hq
  show Ev E m_mo_trace 25 [(0, .ref 55), (1, .int x1)] [.int (bz (iw t2 t1 (t0 - 1)))] X (0, 0) Q
  refine ev_ifz_eq (pc := 25) (tgt := 37) d_mo_trace_25 (by decide) (fun c_1 => ?_) (fun c_1 => ?_)
  · have h_2 := hh.1 c_1
    refine ev_iconst (v := (-1)) (pc := 37) d_mo_trace_37 kc_i_m1 ?_
    exact ev_iret (pc := 38) ⟨Nat.le_of_ble_eq_true rfl, Nat.le_of_ble_eq_true rfl⟩ d_mo_trace_38 rfl (vp_nar_int _) h_2
  · have h_3 := hh.2 c_1
    refine ev_aload_n (x := 55) (pc := 28) d_mo_trace_28 rfl ?_
    refine ev_getR (pc := 29) d_mo_trace_29 f_mo_159 (ly_at hX 55 rfl) gg_12 rfl (ly_rf hX 55 66 rfl) ?_
    refine ev_iload_n (x := x1) (pc := 32) d_mo_trace_32 rfl ?_
    refine ev_ialdJ (v := (gI X 103 (Int32.toNatClampNeg x1))) (pc := 33) d_mo_trace_33 (ly_at hX 103 rfl) h_3.1 rfl ?_
    refine ev_goto (pc := 34) (tgt := 38) d_mo_trace_34 (by decide) ?_
    exact ev_iret (pc := 38) ⟨Nat.le_of_ble_eq_true rfl, Nat.le_of_ble_eq_true rfl⟩ d_mo_trace_38 rfl (vp_nar_int _) h_3.2
theorem b_mo_taken_0 {E : gp_E} {S : gp_S} {X : gp_H} {Q : Option Value → gp_H → Prop} {x1 : Int32} {x2 : Int32} (hX : Lay S X)  (hh : (((iw x2 0 3) = true → (((iw x1 0 ((gI X 55 13) - 1)) = true → (vp_in x1 12 ∧ ((x2 = 0 → Q (some (.int (gI X 65 (Int32.toNatClampNeg x1)))) X) ∧ (¬ x2 = 0 → (((gI X 65 (Int32.toNatClampNeg x1)) = x2 → Q (some (.int (gI X 65 (Int32.toNatClampNeg x1)))) X) ∧ (¬ (gI X 65 (Int32.toNatClampNeg x1)) = x2 → ((¬ x2 = 1 → Q (some (.int (-13))) X) ∧ (x2 = 1 → ((¬ (gI X 65 (Int32.toNatClampNeg x1)) = 2 → Q (some (.int (-13))) X) ∧ ((gI X 65 (Int32.toNatClampNeg x1)) = 2 → Q (some (.int (gI X 65 (Int32.toNatClampNeg x1)))) X)))))))))) ∧ ((iw x1 0 ((gI X 55 13) - 1)) = false → Q (some (.int (-11))) X))) ∧ ((iw x2 0 3) = false → Q (some (.int (-2))) X))) : Ev E m_mo_taken 0 [(0, .ref 55), (1, .int x1), (2, .int x2)] [] X (0, 0) Q := by
  refine ev_iload_n (x := x2) (pc := 0) d_mo_taken_0 rfl ?_
  refine ev_iconst (v := 0) (pc := 1) d_mo_taken_1 kc_i_0 ?_
  refine ev_iconst (v := 3) (pc := 2) d_mo_taken_2 kc_i_3 ?_
  refine ev_callS (z := m_mo_in) (as := [.int x2, .int 0, .int 3]) (rest := []) (pc := 3) d_mo_taken_3 l_mo_196 i_mo_in o_mo_in rfl rfl (Nat.le_of_ble_eq_true rfl) rfl (Nat.le_of_ble_eq_true rfl) ⟨Nat.le_of_ble_eq_true rfl, Nat.le_of_ble_eq_true rfl⟩ (s_mo_in hX x2 0 3) (fun r X1 hq => ?_)
  obtain ⟨rfl, rfl⟩ := hq
  show Ev E m_mo_taken 6 [(0, .ref 55), (1, .int x1), (2, .int x2)] [.int (bz (iw x2 0 3))] X (0, 0) Q
  refine ev_ifz_ne (pc := 6) (tgt := 12) d_mo_taken_6 (by decide) (fun c_1 => ?_) (fun c_1 => ?_)
  · have h_2 := hh.1 c_1
    refine ev_aload_n (x := 55) (pc := 12) d_mo_taken_12 rfl ?_
    refine ev_iload_n (x := x1) (pc := 13) d_mo_taken_13 rfl ?_
    refine ev_callV (z := m_mo_isModel) (as := [.int x1]) (rest := []) (pc := 14) d_mo_taken_14 (ly_at hX 55 rfl) lt13_12 rfl l_mo_248 i_mo_isModel v_mo_isModel o_mo_isModel rfl rfl (Nat.le_of_ble_eq_true rfl) rfl (Nat.le_of_ble_eq_true rfl) ⟨Nat.le_of_ble_eq_true rfl, Nat.le_of_ble_eq_true rfl⟩ (s_mo_isModel hX x1 ) (fun r X1 hq => ?_)
    obtain ⟨rfl, rfl⟩ := hq
    show Ev E m_mo_taken 17 [(0, .ref 55), (1, .int x1), (2, .int x2)] [.int (bz (iw x1 0 ((gI X 55 13) - 1)))] X (0, 0) Q
    refine ev_ifz_ne (pc := 17) (tgt := 23) d_mo_taken_17 (by decide) (fun c_4 => ?_) (fun c_4 => ?_)
    · have h_5 := h_2.1 c_4
      refine ev_aload_n (x := 55) (pc := 23) d_mo_taken_23 rfl ?_
      refine ev_getR (pc := 24) d_mo_taken_24 f_mo_42 (ly_at hX 55 rfl) gg_12 rfl (ly_rf hX 55 14 rfl) ?_
      refine ev_iload_n (x := x1) (pc := 27) d_mo_taken_27 rfl ?_
      refine ev_ialdJ (v := (gI X 65 (Int32.toNatClampNeg x1))) (pc := 28) d_mo_taken_28 (ly_at hX 65 rfl) h_5.1 rfl ?_
      refine ev_istore_n (L2 := [(0, .ref 55), (1, .int x1), (2, .int x2), (3, .int (gI X 65 (Int32.toNatClampNeg x1)))]) (pc := 29) d_mo_taken_29 rfl (Nat.le_of_ble_eq_true rfl) rfl ?_
      refine ev_iload_n (x := x2) (pc := 30) d_mo_taken_30 rfl ?_
      refine ev_if_eq (pc := 31) (tgt := 49) d_mo_taken_31 (by decide) (fun c_7 => ?_) (fun c_7 => ?_)
      · have h_8 := h_5.2.1 c_7
        refine ev_iload_n (x := (gI X 65 (Int32.toNatClampNeg x1))) (pc := 49) d_mo_taken_49 rfl ?_
        refine ev_goto (pc := 50) (tgt := 55) d_mo_taken_50 (by decide) ?_
        exact ev_iret (pc := 55) ⟨Nat.le_of_ble_eq_true rfl, Nat.le_of_ble_eq_true rfl⟩ d_mo_taken_55 rfl (vp_nar_int _) h_8
      · have h_9 := h_5.2.2 c_7
        refine ev_iload_n (x := (gI X 65 (Int32.toNatClampNeg x1))) (pc := 34) d_mo_taken_34 rfl ?_
        refine ev_iload_n (x := x2) (pc := 35) d_mo_taken_35 rfl ?_
        refine ev_icmp_eq (pc := 36) (tgt := 49) d_mo_taken_36 (by decide) (fun c_10 => ?_) (fun c_10 => ?_)
        · have h_11 := h_9.1 c_10
          refine ev_iload_n (x := (gI X 65 (Int32.toNatClampNeg x1))) (pc := 49) d_mo_taken_49 rfl ?_
          refine ev_goto (pc := 50) (tgt := 55) d_mo_taken_50 (by decide) ?_
          exact ev_iret (pc := 55) ⟨Nat.le_of_ble_eq_true rfl, Nat.le_of_ble_eq_true rfl⟩ d_mo_taken_55 rfl (vp_nar_int _) h_11
        · have h_12 := h_9.2 c_10
          refine ev_iload_n (x := x2) (pc := 39) d_mo_taken_39 rfl ?_
          refine ev_iconst (v := 1) (pc := 40) d_mo_taken_40 kc_i_1 ?_
          refine ev_icmp_ne (pc := 41) (tgt := 53) d_mo_taken_41 (by decide) (fun c_13 => ?_) (fun c_13 => ?_)
          · have h_14 := h_12.1 c_13
            refine ev_bipush (v := (-13)) (pc := 53) d_mo_taken_53 kc_b_m13 ?_
            exact ev_iret (pc := 55) ⟨Nat.le_of_ble_eq_true rfl, Nat.le_of_ble_eq_true rfl⟩ d_mo_taken_55 rfl (vp_nar_int _) h_14
          · have h_15 := h_12.2 c_13
            refine ev_iload_n (x := (gI X 65 (Int32.toNatClampNeg x1))) (pc := 44) d_mo_taken_44 rfl ?_
            refine ev_iconst (v := 2) (pc := 45) d_mo_taken_45 kc_i_2 ?_
            refine ev_icmp_ne (pc := 46) (tgt := 53) d_mo_taken_46 (by decide) (fun c_16 => ?_) (fun c_16 => ?_)
            · have h_17 := h_15.1 c_16
              refine ev_bipush (v := (-13)) (pc := 53) d_mo_taken_53 kc_b_m13 ?_
              exact ev_iret (pc := 55) ⟨Nat.le_of_ble_eq_true rfl, Nat.le_of_ble_eq_true rfl⟩ d_mo_taken_55 rfl (vp_nar_int _) h_17
            · have h_18 := h_15.2 c_16
              refine ev_iload_n (x := (gI X 65 (Int32.toNatClampNeg x1))) (pc := 49) d_mo_taken_49 rfl ?_
              refine ev_goto (pc := 50) (tgt := 55) d_mo_taken_50 (by decide) ?_
              exact ev_iret (pc := 55) ⟨Nat.le_of_ble_eq_true rfl, Nat.le_of_ble_eq_true rfl⟩ d_mo_taken_55 rfl (vp_nar_int _) h_18
    · have h_6 := h_2.2 c_4
      refine ev_bipush (v := (-11)) (pc := 20) d_mo_taken_20 kc_b_m11 ?_
      exact ev_iret (pc := 22) ⟨Nat.le_of_ble_eq_true rfl, Nat.le_of_ble_eq_true rfl⟩ d_mo_taken_22 rfl (vp_nar_int _) h_6
  · have h_3 := hh.2 c_1
    refine ev_bipush (v := (-2)) (pc := 9) d_mo_taken_9 kc_b_m2 ?_
    exact ev_iret (pc := 11) ⟨Nat.le_of_ble_eq_true rfl, Nat.le_of_ble_eq_true rfl⟩ d_mo_taken_11 rfl (vp_nar_int _) h_3
theorem b_mo_count_0 {E : gp_E} {S : gp_S} {X : gp_H} {Q : Option Value → gp_H → Prop} {x1 : Int32} (hX : Lay S X)  (hh : (((x1.toInt < 0 ∨ 17 < x1.toInt) → Q (some (.int (-2))) X) ∧ (x1 = 0 → Q (some (.int (gI X 55 0))) X) ∧ (x1 = 1 → Q (some (.int (gI X 55 1))) X) ∧ (x1 = 2 → Q (some (.int (gI X 55 6))) X) ∧ (x1 = 3 → Q (some (.int (gI X 55 13))) X) ∧ (x1 = 4 → Q (some (.int (gI X 55 19))) X) ∧ (x1 = 5 → Q (some (.int (gI X 55 29))) X) ∧ (x1 = 6 → Q (some (.int (gI X 55 33))) X) ∧ (x1 = 7 → Q (some (.int (gI X 55 37))) X) ∧ (x1 = 8 → Q (some (.int (gI X 55 40))) X) ∧ (x1 = 9 → Q (some (.int (gI X 55 45))) X) ∧ (x1 = 10 → Q (some (.int (gI X 55 50))) X) ∧ (x1 = 11 → Q (some (.int (gI X 55 56))) X) ∧ (x1 = 12 → Q (some (.int (gI X 55 57))) X) ∧ (x1 = 13 → Q (some (.int (gI X 55 44))) X) ∧ (x1 = 14 → Q (some (.int (gI X 55 64))) X) ∧ (x1 = 15 → Ev E m_mo_count 165 [(0, .ref 55), (1, .int x1), (2, .int 0), (3, .int 0)] [] X (0, 0) Q) ∧ (x1 = 16 → Ev E m_mo_count 200 [(0, .ref 55), (1, .int x1), (2, .int 0), (3, .int 0)] [] X (0, 0) Q) ∧ (x1 = 17 → Q (some (.int (gI X 55 65))) X))) : Ev E m_mo_count 0 [(0, .ref 55), (1, .int x1)] [] X (0, 0) Q := by
  refine ev_iconst (v := 0) (pc := 0) d_mo_count_0 kc_i_0 ?_
  refine ev_istore_n (L2 := [(0, .ref 55), (1, .int x1), (2, .int 0)]) (pc := 1) d_mo_count_1 rfl (Nat.le_of_ble_eq_true rfl) rfl ?_
  refine ev_iload_n (x := x1) (pc := 2) d_mo_count_2 rfl ?_
  rcases gp_tab (lo := 0) (n := 18) x1 with c_20 | ⟨k, hk, c_20⟩
  · have h_1 := hh.1 (by omega)
    refine ev_tableOut (pc := 3) (tgt := 239) d_mo_count_3 (by omega) (by decide) ?_
    refine ev_bipush (v := (-2)) (pc := 239) d_mo_count_239 kc_b_m2 ?_
    exact ev_iret (pc := 241) ⟨Nat.le_of_ble_eq_true rfl, Nat.le_of_ble_eq_true rfl⟩ d_mo_count_241 rfl (vp_nar_int _) h_1
  · match k, hk, c_20 with
    | 0, _, c_20 =>
      have c_20e : x1 = 0 := gp_eqi (c_20.trans (by decide : (0 : Int) + ((0 : Nat) : Int) = 0)) (by decide)
      have h_2 := hh.2.1 c_20e
      refine ev_tableIn (pc := 3) (off := 85) (tgt := 88) d_mo_count_3 (by rw [c_20e]; decide) (by rw [c_20e]; decide) (by rw [c_20e]; decide) (by decide) ?_
      refine ev_aload_n (x := 55) (pc := 88) d_mo_count_88 rfl ?_
      refine ev_getJ (v := (gI X 55 0)) (pc := 89) d_mo_count_89 f_mo_193 (ly_at hX 55 rfl) gg_12 rfl rfl ?_
      exact ev_iret (pc := 92) ⟨Nat.le_of_ble_eq_true rfl, Nat.le_of_ble_eq_true rfl⟩ d_mo_count_92 rfl (vp_nar_int _) h_2
    | 1, _, c_20 =>
      have c_20e : x1 = 1 := gp_eqi (c_20.trans (by decide : (0 : Int) + ((1 : Nat) : Int) = 1)) (by decide)
      have h_3 := hh.2.2.1 c_20e
      refine ev_tableIn (pc := 3) (off := 90) (tgt := 93) d_mo_count_3 (by rw [c_20e]; decide) (by rw [c_20e]; decide) (by rw [c_20e]; decide) (by decide) ?_
      refine ev_aload_n (x := 55) (pc := 93) d_mo_count_93 rfl ?_
      refine ev_getJ (v := (gI X 55 1)) (pc := 94) d_mo_count_94 f_mo_216 (ly_at hX 55 rfl) gg_12 rfl rfl ?_
      exact ev_iret (pc := 97) ⟨Nat.le_of_ble_eq_true rfl, Nat.le_of_ble_eq_true rfl⟩ d_mo_count_97 rfl (vp_nar_int _) h_3
    | 2, _, c_20 =>
      have c_20e : x1 = 2 := gp_eqi (c_20.trans (by decide : (0 : Int) + ((2 : Nat) : Int) = 2)) (by decide)
      have h_4 := hh.2.2.2.1 c_20e
      refine ev_tableIn (pc := 3) (off := 95) (tgt := 98) d_mo_count_3 (by rw [c_20e]; decide) (by rw [c_20e]; decide) (by rw [c_20e]; decide) (by decide) ?_
      refine ev_aload_n (x := 55) (pc := 98) d_mo_count_98 rfl ?_
      refine ev_getJ (v := (gI X 55 6)) (pc := 99) d_mo_count_99 f_mo_219 (ly_at hX 55 rfl) gg_12 rfl rfl ?_
      exact ev_iret (pc := 102) ⟨Nat.le_of_ble_eq_true rfl, Nat.le_of_ble_eq_true rfl⟩ d_mo_count_102 rfl (vp_nar_int _) h_4
    | 3, _, c_20 =>
      have c_20e : x1 = 3 := gp_eqi (c_20.trans (by decide : (0 : Int) + ((3 : Nat) : Int) = 3)) (by decide)
      have h_5 := hh.2.2.2.2.1 c_20e
      refine ev_tableIn (pc := 3) (off := 100) (tgt := 103) d_mo_count_3 (by rw [c_20e]; decide) (by rw [c_20e]; decide) (by rw [c_20e]; decide) (by decide) ?_
      refine ev_aload_n (x := 55) (pc := 103) d_mo_count_103 rfl ?_
      refine ev_getJ (v := (gI X 55 13)) (pc := 104) d_mo_count_104 f_mo_203 (ly_at hX 55 rfl) gg_12 rfl rfl ?_
      exact ev_iret (pc := 107) ⟨Nat.le_of_ble_eq_true rfl, Nat.le_of_ble_eq_true rfl⟩ d_mo_count_107 rfl (vp_nar_int _) h_5
    | 4, _, c_20 =>
      have c_20e : x1 = 4 := gp_eqi (c_20.trans (by decide : (0 : Int) + ((4 : Nat) : Int) = 4)) (by decide)
      have h_6 := hh.2.2.2.2.2.1 c_20e
      refine ev_tableIn (pc := 3) (off := 105) (tgt := 108) d_mo_count_3 (by rw [c_20e]; decide) (by rw [c_20e]; decide) (by rw [c_20e]; decide) (by decide) ?_
      refine ev_aload_n (x := 55) (pc := 108) d_mo_count_108 rfl ?_
      refine ev_getJ (v := (gI X 55 19)) (pc := 109) d_mo_count_109 f_mo_200 (ly_at hX 55 rfl) gg_12 rfl rfl ?_
      exact ev_iret (pc := 112) ⟨Nat.le_of_ble_eq_true rfl, Nat.le_of_ble_eq_true rfl⟩ d_mo_count_112 rfl (vp_nar_int _) h_6
    | 5, _, c_20 =>
      have c_20e : x1 = 5 := gp_eqi (c_20.trans (by decide : (0 : Int) + ((5 : Nat) : Int) = 5)) (by decide)
      have h_7 := hh.2.2.2.2.2.2.1 c_20e
      refine ev_tableIn (pc := 3) (off := 110) (tgt := 113) d_mo_count_3 (by rw [c_20e]; decide) (by rw [c_20e]; decide) (by rw [c_20e]; decide) (by decide) ?_
      refine ev_aload_n (x := 55) (pc := 113) d_mo_count_113 rfl ?_
      refine ev_getJ (v := (gI X 55 29)) (pc := 114) d_mo_count_114 f_mo_254 (ly_at hX 55 rfl) gg_12 rfl rfl ?_
      exact ev_iret (pc := 117) ⟨Nat.le_of_ble_eq_true rfl, Nat.le_of_ble_eq_true rfl⟩ d_mo_count_117 rfl (vp_nar_int _) h_7
    | 6, _, c_20 =>
      have c_20e : x1 = 6 := gp_eqi (c_20.trans (by decide : (0 : Int) + ((6 : Nat) : Int) = 6)) (by decide)
      have h_8 := hh.2.2.2.2.2.2.2.1 c_20e
      refine ev_tableIn (pc := 3) (off := 115) (tgt := 118) d_mo_count_3 (by rw [c_20e]; decide) (by rw [c_20e]; decide) (by rw [c_20e]; decide) (by decide) ?_
      refine ev_aload_n (x := 55) (pc := 118) d_mo_count_118 rfl ?_
      refine ev_getJ (v := (gI X 55 33)) (pc := 119) d_mo_count_119 f_mo_277 (ly_at hX 55 rfl) gg_12 rfl rfl ?_
      exact ev_iret (pc := 122) ⟨Nat.le_of_ble_eq_true rfl, Nat.le_of_ble_eq_true rfl⟩ d_mo_count_122 rfl (vp_nar_int _) h_8
    | 7, _, c_20 =>
      have c_20e : x1 = 7 := gp_eqi (c_20.trans (by decide : (0 : Int) + ((7 : Nat) : Int) = 7)) (by decide)
      have h_9 := hh.2.2.2.2.2.2.2.2.1 c_20e
      refine ev_tableIn (pc := 3) (off := 120) (tgt := 123) d_mo_count_3 (by rw [c_20e]; decide) (by rw [c_20e]; decide) (by rw [c_20e]; decide) (by decide) ?_
      refine ev_aload_n (x := 55) (pc := 123) d_mo_count_123 rfl ?_
      refine ev_getJ (v := (gI X 55 37)) (pc := 124) d_mo_count_124 f_mo_206 (ly_at hX 55 rfl) gg_12 rfl rfl ?_
      exact ev_iret (pc := 127) ⟨Nat.le_of_ble_eq_true rfl, Nat.le_of_ble_eq_true rfl⟩ d_mo_count_127 rfl (vp_nar_int _) h_9
    | 8, _, c_20 =>
      have c_20e : x1 = 8 := gp_eqi (c_20.trans (by decide : (0 : Int) + ((8 : Nat) : Int) = 8)) (by decide)
      have h_10 := hh.2.2.2.2.2.2.2.2.2.1 c_20e
      refine ev_tableIn (pc := 3) (off := 125) (tgt := 128) d_mo_count_3 (by rw [c_20e]; decide) (by rw [c_20e]; decide) (by rw [c_20e]; decide) (by decide) ?_
      refine ev_aload_n (x := 55) (pc := 128) d_mo_count_128 rfl ?_
      refine ev_getJ (v := (gI X 55 40)) (pc := 129) d_mo_count_129 f_mo_310 (ly_at hX 55 rfl) gg_12 rfl rfl ?_
      exact ev_iret (pc := 132) ⟨Nat.le_of_ble_eq_true rfl, Nat.le_of_ble_eq_true rfl⟩ d_mo_count_132 rfl (vp_nar_int _) h_10
    | 9, _, c_20 =>
      have c_20e : x1 = 9 := gp_eqi (c_20.trans (by decide : (0 : Int) + ((9 : Nat) : Int) = 9)) (by decide)
      have h_11 := hh.2.2.2.2.2.2.2.2.2.2.1 c_20e
      refine ev_tableIn (pc := 3) (off := 130) (tgt := 133) d_mo_count_3 (by rw [c_20e]; decide) (by rw [c_20e]; decide) (by rw [c_20e]; decide) (by decide) ?_
      refine ev_aload_n (x := 55) (pc := 133) d_mo_count_133 rfl ?_
      refine ev_getJ (v := (gI X 55 45)) (pc := 134) d_mo_count_134 f_mo_209 (ly_at hX 55 rfl) gg_12 rfl rfl ?_
      exact ev_iret (pc := 137) ⟨Nat.le_of_ble_eq_true rfl, Nat.le_of_ble_eq_true rfl⟩ d_mo_count_137 rfl (vp_nar_int _) h_11
    | 10, _, c_20 =>
      have c_20e : x1 = 10 := gp_eqi (c_20.trans (by decide : (0 : Int) + ((10 : Nat) : Int) = 10)) (by decide)
      have h_12 := hh.2.2.2.2.2.2.2.2.2.2.2.1 c_20e
      refine ev_tableIn (pc := 3) (off := 135) (tgt := 138) d_mo_count_3 (by rw [c_20e]; decide) (by rw [c_20e]; decide) (by rw [c_20e]; decide) (by decide) ?_
      refine ev_aload_n (x := 55) (pc := 138) d_mo_count_138 rfl ?_
      refine ev_getJ (v := (gI X 55 50)) (pc := 139) d_mo_count_139 f_mo_337 (ly_at hX 55 rfl) gg_12 rfl rfl ?_
      exact ev_iret (pc := 142) ⟨Nat.le_of_ble_eq_true rfl, Nat.le_of_ble_eq_true rfl⟩ d_mo_count_142 rfl (vp_nar_int _) h_12
    | 11, _, c_20 =>
      have c_20e : x1 = 11 := gp_eqi (c_20.trans (by decide : (0 : Int) + ((11 : Nat) : Int) = 11)) (by decide)
      have h_13 := hh.2.2.2.2.2.2.2.2.2.2.2.2.1 c_20e
      refine ev_tableIn (pc := 3) (off := 140) (tgt := 143) d_mo_count_3 (by rw [c_20e]; decide) (by rw [c_20e]; decide) (by rw [c_20e]; decide) (by decide) ?_
      refine ev_aload_n (x := 55) (pc := 143) d_mo_count_143 rfl ?_
      refine ev_getJ (v := (gI X 55 56)) (pc := 144) d_mo_count_144 f_mo_343 (ly_at hX 55 rfl) gg_12 rfl rfl ?_
      exact ev_iret (pc := 147) ⟨Nat.le_of_ble_eq_true rfl, Nat.le_of_ble_eq_true rfl⟩ d_mo_count_147 rfl (vp_nar_int _) h_13
    | 12, _, c_20 =>
      have c_20e : x1 = 12 := gp_eqi (c_20.trans (by decide : (0 : Int) + ((12 : Nat) : Int) = 12)) (by decide)
      have h_14 := hh.2.2.2.2.2.2.2.2.2.2.2.2.2.1 c_20e
      refine ev_tableIn (pc := 3) (off := 145) (tgt := 148) d_mo_count_3 (by rw [c_20e]; decide) (by rw [c_20e]; decide) (by rw [c_20e]; decide) (by decide) ?_
      refine ev_aload_n (x := 55) (pc := 148) d_mo_count_148 rfl ?_
      refine ev_getJ (v := (gI X 55 57)) (pc := 149) d_mo_count_149 f_mo_283 (ly_at hX 55 rfl) gg_12 rfl rfl ?_
      exact ev_iret (pc := 152) ⟨Nat.le_of_ble_eq_true rfl, Nat.le_of_ble_eq_true rfl⟩ d_mo_count_152 rfl (vp_nar_int _) h_14
    | 13, _, c_20 =>
      have c_20e : x1 = 13 := gp_eqi (c_20.trans (by decide : (0 : Int) + ((13 : Nat) : Int) = 13)) (by decide)
      have h_15 := hh.2.2.2.2.2.2.2.2.2.2.2.2.2.2.1 c_20e
      refine ev_tableIn (pc := 3) (off := 150) (tgt := 153) d_mo_count_3 (by rw [c_20e]; decide) (by rw [c_20e]; decide) (by rw [c_20e]; decide) (by decide) ?_
      refine ev_aload_n (x := 55) (pc := 153) d_mo_count_153 rfl ?_
      refine ev_getJ (v := (gI X 55 44)) (pc := 154) d_mo_count_154 f_mo_274 (ly_at hX 55 rfl) gg_12 rfl rfl ?_
      exact ev_iret (pc := 157) ⟨Nat.le_of_ble_eq_true rfl, Nat.le_of_ble_eq_true rfl⟩ d_mo_count_157 rfl (vp_nar_int _) h_15
    | 14, _, c_20 =>
      have c_20e : x1 = 14 := gp_eqi (c_20.trans (by decide : (0 : Int) + ((14 : Nat) : Int) = 14)) (by decide)
      have h_16 := hh.2.2.2.2.2.2.2.2.2.2.2.2.2.2.2.1 c_20e
      refine ev_tableIn (pc := 3) (off := 155) (tgt := 158) d_mo_count_3 (by rw [c_20e]; decide) (by rw [c_20e]; decide) (by rw [c_20e]; decide) (by decide) ?_
      refine ev_aload_n (x := 55) (pc := 158) d_mo_count_158 rfl ?_
      refine ev_getJ (v := (gI X 55 64)) (pc := 159) d_mo_count_159 f_mo_351 (ly_at hX 55 rfl) gg_12 rfl rfl ?_
      exact ev_iret (pc := 162) ⟨Nat.le_of_ble_eq_true rfl, Nat.le_of_ble_eq_true rfl⟩ d_mo_count_162 rfl (vp_nar_int _) h_16
    | 15, _, c_20 =>
      have c_20e : x1 = 15 := gp_eqi (c_20.trans (by decide : (0 : Int) + ((15 : Nat) : Int) = 15)) (by decide)
      have h_17 := hh.2.2.2.2.2.2.2.2.2.2.2.2.2.2.2.2.1 c_20e
      refine ev_tableIn (pc := 3) (off := 160) (tgt := 163) d_mo_count_3 (by rw [c_20e]; decide) (by rw [c_20e]; decide) (by rw [c_20e]; decide) (by decide) ?_
      refine ev_iconst (v := 0) (pc := 163) d_mo_count_163 kc_i_0 ?_
      refine ev_istore_n (L2 := [(0, .ref 55), (1, .int x1), (2, .int 0), (3, .int 0)]) (pc := 164) d_mo_count_164 rfl (Nat.le_of_ble_eq_true rfl) rfl ?_
      exact h_17
    | 16, _, c_20 =>
      have c_20e : x1 = 16 := gp_eqi (c_20.trans (by decide : (0 : Int) + ((16 : Nat) : Int) = 16)) (by decide)
      have h_18 := hh.2.2.2.2.2.2.2.2.2.2.2.2.2.2.2.2.2.1 c_20e
      refine ev_tableIn (pc := 3) (off := 195) (tgt := 198) d_mo_count_3 (by rw [c_20e]; decide) (by rw [c_20e]; decide) (by rw [c_20e]; decide) (by decide) ?_
      refine ev_iconst (v := 0) (pc := 198) d_mo_count_198 kc_i_0 ?_
      refine ev_istore_n (L2 := [(0, .ref 55), (1, .int x1), (2, .int 0), (3, .int 0)]) (pc := 199) d_mo_count_199 rfl (Nat.le_of_ble_eq_true rfl) rfl ?_
      exact h_18
    | 17, _, c_20 =>
      have c_20e : x1 = 17 := gp_eqi (c_20.trans (by decide : (0 : Int) + ((17 : Nat) : Int) = 17)) (by decide)
      have h_19 := hh.2.2.2.2.2.2.2.2.2.2.2.2.2.2.2.2.2.2 c_20e
      refine ev_tableIn (pc := 3) (off := 231) (tgt := 234) d_mo_count_3 (by rw [c_20e]; decide) (by rw [c_20e]; decide) (by rw [c_20e]; decide) (by decide) ?_
      refine ev_aload_n (x := 55) (pc := 234) d_mo_count_234 rfl ?_
      refine ev_getJ (v := (gI X 55 65)) (pc := 235) d_mo_count_235 f_mo_370 (ly_at hX 55 rfl) gg_12 rfl rfl ?_
      exact ev_iret (pc := 238) ⟨Nat.le_of_ble_eq_true rfl, Nat.le_of_ble_eq_true rfl⟩ d_mo_count_238 rfl (vp_nar_int _) h_19
    | k + 18, hk, _ => exact absurd hk (by omega)
theorem b_mo_count_165 {E : gp_E} {S : gp_S} {X : gp_H} {Q : Option Value → gp_H → Prop} {x1 : Int32} {x2 : Int32} {x3 : Int32} (hX : Lay S X)  (hh : (((gI X 55 1) ≤ x3 → Q (some (.int x2)) X) ∧ (¬ (gI X 55 1) ≤ x3 → (vp_in x3 20 ∧ (((gI X 59 (Int32.toNatClampNeg x3)) = 0 → Ev E m_mo_count 165 [(0, .ref 55), (1, .int x1), (2, .int (x2 + 1)), (3, .int (x3 + 1))] [] X (0, 0) Q) ∧ (¬ (gI X 59 (Int32.toNatClampNeg x3)) = 0 → Ev E m_mo_count 165 [(0, .ref 55), (1, .int x1), (2, .int (x2 + 0)), (3, .int (x3 + 1))] [] X (0, 0) Q)))))) : Ev E m_mo_count 165 [(0, .ref 55), (1, .int x1), (2, .int x2), (3, .int x3)] [] X (0, 0) Q := by
  refine ev_iload_n (x := x3) (pc := 165) d_mo_count_165 rfl ?_
  refine ev_aload_n (x := 55) (pc := 166) d_mo_count_166 rfl ?_
  refine ev_getJ (v := (gI X 55 1)) (pc := 167) d_mo_count_167 f_mo_216 (ly_at hX 55 rfl) gg_12 rfl rfl ?_
  refine ev_icmp_ge (pc := 170) (tgt := 196) d_mo_count_170 (by decide) (fun c_1 => ?_) (fun c_1 => ?_)
  · have h_2 := hh.1 c_1
    refine ev_iload_n (x := x2) (pc := 196) d_mo_count_196 rfl ?_
    exact ev_iret (pc := 197) ⟨Nat.le_of_ble_eq_true rfl, Nat.le_of_ble_eq_true rfl⟩ d_mo_count_197 rfl (vp_nar_int _) h_2
  · have h_3 := hh.2 c_1
    refine ev_iload_n (x := x2) (pc := 173) d_mo_count_173 rfl ?_
    refine ev_aload_n (x := 55) (pc := 174) d_mo_count_174 rfl ?_
    refine ev_getR (pc := 175) d_mo_count_175 f_mo_20 (ly_at hX 55 rfl) gg_12 rfl (ly_rf hX 55 5 rfl) ?_
    refine ev_iload_n (x := x3) (pc := 178) d_mo_count_178 rfl ?_
    refine ev_zaldJ (v := (gI X 59 (Int32.toNatClampNeg x3))) (pc := 179) d_mo_count_179 (ly_at hX 59 rfl) h_3.1 rfl ?_
    refine ev_if_eq (pc := 180) (tgt := 187) d_mo_count_180 (by decide) (fun c_4 => ?_) (fun c_4 => ?_)
    · have h_5 := h_3.2.1 c_4
      refine ev_iconst (v := 1) (pc := 187) d_mo_count_187 kc_i_1 ?_
      refine ev_iadd (pc := 188) d_mo_count_188 ?_
      refine ev_istore_n (L2 := [(0, .ref 55), (1, .int x1), (2, .int (x2 + 1)), (3, .int x3)]) (pc := 189) d_mo_count_189 rfl (Nat.le_of_ble_eq_true rfl) rfl ?_
      refine ev_iinc (v := (x3 + 1)) (L2 := [(0, .ref 55), (1, .int x1), (2, .int (x2 + 1)), (3, .int (x3 + 1))]) (pc := 190) d_mo_count_190 rfl (by rw [kc_i_1]) rfl (Nat.le_of_ble_eq_true rfl) rfl ?_
      refine ev_goto (pc := 193) (tgt := 165) d_mo_count_193 (by decide) ?_
      exact h_5
    · have h_6 := h_3.2.2 c_4
      refine ev_iconst (v := 0) (pc := 183) d_mo_count_183 kc_i_0 ?_
      refine ev_goto (pc := 184) (tgt := 188) d_mo_count_184 (by decide) ?_
      refine ev_iadd (pc := 188) d_mo_count_188 ?_
      refine ev_istore_n (L2 := [(0, .ref 55), (1, .int x1), (2, .int (x2 + 0)), (3, .int x3)]) (pc := 189) d_mo_count_189 rfl (Nat.le_of_ble_eq_true rfl) rfl ?_
      refine ev_iinc (v := (x3 + 1)) (L2 := [(0, .ref 55), (1, .int x1), (2, .int (x2 + 0)), (3, .int (x3 + 1))]) (pc := 190) d_mo_count_190 rfl (by rw [kc_i_1]) rfl (Nat.le_of_ble_eq_true rfl) rfl ?_
      refine ev_goto (pc := 193) (tgt := 165) d_mo_count_193 (by decide) ?_
      exact h_6
theorem b_mo_count_200 {E : gp_E} {S : gp_S} {X : gp_H} {Q : Option Value → gp_H → Prop} {x1 : Int32} {x2 : Int32} {x3 : Int32} (hX : Lay S X)  (hh : (((gI X 55 19) ≤ x3 → Q (some (.int x2)) X) ∧ (¬ (gI X 55 19) ≤ x3 → (vp_in x3 40 ∧ ((¬ (gI X 74 (Int32.toNatClampNeg x3)) = 2 → Ev E m_mo_count 200 [(0, .ref 55), (1, .int x1), (2, .int (x2 + 0)), (3, .int (x3 + 1))] [] X (0, 0) Q) ∧ ((gI X 74 (Int32.toNatClampNeg x3)) = 2 → Ev E m_mo_count 200 [(0, .ref 55), (1, .int x1), (2, .int (x2 + 1)), (3, .int (x3 + 1))] [] X (0, 0) Q)))))) : Ev E m_mo_count 200 [(0, .ref 55), (1, .int x1), (2, .int x2), (3, .int x3)] [] X (0, 0) Q := by
  refine ev_iload_n (x := x3) (pc := 200) d_mo_count_200 rfl ?_
  refine ev_aload_n (x := 55) (pc := 201) d_mo_count_201 rfl ?_
  refine ev_getJ (v := (gI X 55 19)) (pc := 202) d_mo_count_202 f_mo_200 (ly_at hX 55 rfl) gg_12 rfl rfl ?_
  refine ev_icmp_ge (pc := 205) (tgt := 232) d_mo_count_205 (by decide) (fun c_1 => ?_) (fun c_1 => ?_)
  · have h_2 := hh.1 c_1
    refine ev_iload_n (x := x2) (pc := 232) d_mo_count_232 rfl ?_
    exact ev_iret (pc := 233) ⟨Nat.le_of_ble_eq_true rfl, Nat.le_of_ble_eq_true rfl⟩ d_mo_count_233 rfl (vp_nar_int _) h_2
  · have h_3 := hh.2 c_1
    refine ev_iload_n (x := x2) (pc := 208) d_mo_count_208 rfl ?_
    refine ev_aload_n (x := 55) (pc := 209) d_mo_count_209 rfl ?_
    refine ev_getR (pc := 210) d_mo_count_210 f_mo_69 (ly_at hX 55 rfl) gg_12 rfl (ly_rf hX 55 24 rfl) ?_
    refine ev_iload_n (x := x3) (pc := 213) d_mo_count_213 rfl ?_
    refine ev_ialdJ (v := (gI X 74 (Int32.toNatClampNeg x3))) (pc := 214) d_mo_count_214 (ly_at hX 74 rfl) h_3.1 rfl ?_
    refine ev_iconst (v := 2) (pc := 215) d_mo_count_215 kc_i_2 ?_
    refine ev_icmp_ne (pc := 216) (tgt := 223) d_mo_count_216 (by decide) (fun c_4 => ?_) (fun c_4 => ?_)
    · have h_5 := h_3.2.1 c_4
      refine ev_iconst (v := 0) (pc := 223) d_mo_count_223 kc_i_0 ?_
      refine ev_iadd (pc := 224) d_mo_count_224 ?_
      refine ev_istore_n (L2 := [(0, .ref 55), (1, .int x1), (2, .int (x2 + 0)), (3, .int x3)]) (pc := 225) d_mo_count_225 rfl (Nat.le_of_ble_eq_true rfl) rfl ?_
      refine ev_iinc (v := (x3 + 1)) (L2 := [(0, .ref 55), (1, .int x1), (2, .int (x2 + 0)), (3, .int (x3 + 1))]) (pc := 226) d_mo_count_226 rfl (by rw [kc_i_1]) rfl (Nat.le_of_ble_eq_true rfl) rfl ?_
      refine ev_goto (pc := 229) (tgt := 200) d_mo_count_229 (by decide) ?_
      exact h_5
    · have h_6 := h_3.2.2 c_4
      refine ev_iconst (v := 1) (pc := 219) d_mo_count_219 kc_i_1 ?_
      refine ev_goto (pc := 220) (tgt := 224) d_mo_count_220 (by decide) ?_
      refine ev_iadd (pc := 224) d_mo_count_224 ?_
      refine ev_istore_n (L2 := [(0, .ref 55), (1, .int x1), (2, .int (x2 + 1)), (3, .int x3)]) (pc := 225) d_mo_count_225 rfl (Nat.le_of_ble_eq_true rfl) rfl ?_
      refine ev_iinc (v := (x3 + 1)) (L2 := [(0, .ref 55), (1, .int x1), (2, .int (x2 + 1)), (3, .int (x3 + 1))]) (pc := 226) d_mo_count_226 rfl (by rw [kc_i_1]) rfl (Nat.le_of_ble_eq_true rfl) rfl ?_
      refine ev_goto (pc := 229) (tgt := 200) d_mo_count_229 (by decide) ?_
      exact h_6
theorem b_mo_sheet_0 {E : gp_E} {S : gp_S} {X : gp_H} {Q : Option Value → gp_H → Prop} {x1 : Int32} {x2 : Int32} {x3 : Int32} (hX : Lay S X)  (hh : (((iw x1 0 2) = false → Q (some (.int (-2))) X) ∧ ((iw x1 0 2) = true → (((iw x2 (-1) 2) = false → Q (some (.int (-2))) X) ∧ ((iw x2 (-1) 2) = true → ((x2 = (-1) → Ev E m_mo_sheet 30 [(0, .ref 55), (1, .int x1), (2, .int x2), (3, .int x3)] [] X (0, 0) Q) ∧ (¬ x2 = (-1) → ((x3 ≤ 40 → Ev E m_mo_sheet 30 [(0, .ref 55), (1, .int x1), (2, .int x2), (3, .int x3)] [] X (0, 0) Q) ∧ (¬ x3 ≤ 40 → Q (some (.int (-2))) X))))))))) : Ev E m_mo_sheet 0 [(0, .ref 55), (1, .int x1), (2, .int x2), (3, .int x3)] [] X (0, 0) Q := by
  refine ev_iload_n (x := x1) (pc := 0) d_mo_sheet_0 rfl ?_
  refine ev_callS (z := m_mo_isSheet) (as := [.int x1]) (rest := []) (pc := 1) d_mo_sheet_1 l_mo_257 i_mo_isSheet o_mo_isSheet rfl rfl (Nat.le_of_ble_eq_true rfl) rfl (Nat.le_of_ble_eq_true rfl) ⟨Nat.le_of_ble_eq_true rfl, Nat.le_of_ble_eq_true rfl⟩ (s_mo_isSheet hX x1 ) (fun r X1 hq => ?_)
  obtain ⟨rfl, rfl⟩ := hq
  show Ev E m_mo_sheet 4 [(0, .ref 55), (1, .int x1), (2, .int x2), (3, .int x3)] [.int (bz (iw x1 0 2))] X (0, 0) Q
  refine ev_ifz_eq (pc := 4) (tgt := 27) d_mo_sheet_4 (by decide) (fun c_1 => ?_) (fun c_1 => ?_)
  · have h_2 := hh.1 c_1
    refine ev_bipush (v := (-2)) (pc := 27) d_mo_sheet_27 kc_b_m2 ?_
    exact ev_iret (pc := 29) ⟨Nat.le_of_ble_eq_true rfl, Nat.le_of_ble_eq_true rfl⟩ d_mo_sheet_29 rfl (vp_nar_int _) h_2
  · have h_3 := hh.2 c_1
    refine ev_iload_n (x := x2) (pc := 7) d_mo_sheet_7 rfl ?_
    refine ev_iconst (v := (-1)) (pc := 8) d_mo_sheet_8 kc_i_m1 ?_
    refine ev_iconst (v := 2) (pc := 9) d_mo_sheet_9 kc_i_2 ?_
    refine ev_callS (z := m_mo_in) (as := [.int x2, .int (-1), .int 2]) (rest := []) (pc := 10) d_mo_sheet_10 l_mo_196 i_mo_in o_mo_in rfl rfl (Nat.le_of_ble_eq_true rfl) rfl (Nat.le_of_ble_eq_true rfl) ⟨Nat.le_of_ble_eq_true rfl, Nat.le_of_ble_eq_true rfl⟩ (s_mo_in hX x2 (-1) 2) (fun r X1 hq => ?_)
    obtain ⟨rfl, rfl⟩ := hq
    show Ev E m_mo_sheet 13 [(0, .ref 55), (1, .int x1), (2, .int x2), (3, .int x3)] [.int (bz (iw x2 (-1) 2))] X (0, 0) Q
    refine ev_ifz_eq (pc := 13) (tgt := 27) d_mo_sheet_13 (by decide) (fun c_4 => ?_) (fun c_4 => ?_)
    · have h_5 := h_3.1 c_4
      refine ev_bipush (v := (-2)) (pc := 27) d_mo_sheet_27 kc_b_m2 ?_
      exact ev_iret (pc := 29) ⟨Nat.le_of_ble_eq_true rfl, Nat.le_of_ble_eq_true rfl⟩ d_mo_sheet_29 rfl (vp_nar_int _) h_5
    · have h_6 := h_3.2 c_4
      refine ev_iload_n (x := x2) (pc := 16) d_mo_sheet_16 rfl ?_
      refine ev_iconst (v := (-1)) (pc := 17) d_mo_sheet_17 kc_i_m1 ?_
      refine ev_icmp_eq (pc := 18) (tgt := 30) d_mo_sheet_18 (by decide) (fun c_7 => ?_) (fun c_7 => ?_)
      · have h_8 := h_6.1 c_7
        exact h_8
      · have h_9 := h_6.2 c_7
        refine ev_iload_n (x := x3) (pc := 21) d_mo_sheet_21 rfl ?_
        refine ev_bipush (v := 40) (pc := 22) d_mo_sheet_22 kc_b_40 ?_
        refine ev_icmp_le (pc := 24) (tgt := 30) d_mo_sheet_24 (by decide) (fun c_10 => ?_) (fun c_10 => ?_)
        · have h_11 := h_9.1 c_10
          exact h_11
        · have h_12 := h_9.2 c_10
          refine ev_bipush (v := (-2)) (pc := 27) d_mo_sheet_27 kc_b_m2 ?_
          exact ev_iret (pc := 29) ⟨Nat.le_of_ble_eq_true rfl, Nat.le_of_ble_eq_true rfl⟩ d_mo_sheet_29 rfl (vp_nar_int _) h_12
theorem b_mo_sheet_30 {E : gp_E} {S : gp_S} {X : gp_H} {Q : Option Value → gp_H → Prop} {x1 : Int32} {x2 : Int32} {x3 : Int32} (hX : Lay S X)  (hh : ((x2 = (-1) → Ev E m_mo_sheet 42 [(0, .ref 55), (1, .int x1), (2, .int x2), (3, .int x3)] [] X (0, 0) Q) ∧ (¬ x2 = (-1) → ((0 ≤ x3 → Ev E m_mo_sheet 42 [(0, .ref 55), (1, .int x1), (2, .int x2), (3, .int x3)] [] X (0, 0) Q) ∧ (¬ 0 ≤ x3 → Q (some (.int (-14))) X))))) : Ev E m_mo_sheet 30 [(0, .ref 55), (1, .int x1), (2, .int x2), (3, .int x3)] [] X (0, 0) Q := by
  refine ev_iload_n (x := x2) (pc := 30) d_mo_sheet_30 rfl ?_
  refine ev_iconst (v := (-1)) (pc := 31) d_mo_sheet_31 kc_i_m1 ?_
  refine ev_icmp_eq (pc := 32) (tgt := 42) d_mo_sheet_32 (by decide) (fun c_1 => ?_) (fun c_1 => ?_)
  · have h_2 := hh.1 c_1
    exact h_2
  · have h_3 := hh.2 c_1
    refine ev_iload_n (x := x3) (pc := 35) d_mo_sheet_35 rfl ?_
    refine ev_if_ge (pc := 36) (tgt := 42) d_mo_sheet_36 (by decide) (fun c_4 => ?_) (fun c_4 => ?_)
    · have h_5 := h_3.1 c_4
      exact h_5
    · have h_6 := h_3.2 c_4
      refine ev_bipush (v := (-14)) (pc := 39) d_mo_sheet_39 kc_b_m14 ?_
      exact ev_iret (pc := 41) ⟨Nat.le_of_ble_eq_true rfl, Nat.le_of_ble_eq_true rfl⟩ d_mo_sheet_41 rfl (vp_nar_int _) h_6
theorem b_mo_sheet_42 {E : gp_E} {S : gp_S} {X : gp_H} {Q : Option Value → gp_H → Prop} {x1 : Int32} {x2 : Int32} {x3 : Int32} (hX : Lay S X)  (hh : (vp_in x1 3 ∧ ((¬ x2 = (-1) → Ev E m_mo_sheet 64 [(0, .ref 55), (1, .int x1), (2, .int x2), (3, .int x3)] [.int x3, .int x1, .ref 105] (gp_sI X 104 (Int32.toNatClampNeg x1) x2) (0, 0) Q) ∧ (x2 = (-1) → Ev E m_mo_sheet 64 [(0, .ref 55), (1, .int x1), (2, .int x2), (3, .int x3)] [.int 0, .int x1, .ref 105] (gp_sI X 104 (Int32.toNatClampNeg x1) x2) (0, 0) Q)))) : Ev E m_mo_sheet 42 [(0, .ref 55), (1, .int x1), (2, .int x2), (3, .int x3)] [] X (0, 0) Q := by
  refine ev_aload_n (x := 55) (pc := 42) d_mo_sheet_42 rfl ?_
  refine ev_getR (pc := 43) d_mo_sheet_43 f_mo_162 (ly_at hX 55 rfl) gg_12 rfl (ly_rf hX 55 67 rfl) ?_
  refine ev_iload_n (x := x1) (pc := 46) d_mo_sheet_46 rfl ?_
  refine ev_iload_n (x := x2) (pc := 47) d_mo_sheet_47 rfl ?_
  refine ev_iast (pc := 48) d_mo_sheet_48 (ly_at hX 104 rfl) hh.1 ?_
  refine ev_aload_n (x := 55) (pc := 49) d_mo_sheet_49 rfl ?_
  refine ev_getR (pc := 50) d_mo_sheet_50 f_mo_165 (ly_at (ly_sI hX) 55 rfl) gg_12 rfl (ly_rf (ly_sI hX) 55 68 rfl) ?_
  refine ev_iload_n (x := x1) (pc := 53) d_mo_sheet_53 rfl ?_
  refine ev_iload_n (x := x2) (pc := 54) d_mo_sheet_54 rfl ?_
  refine ev_iconst (v := (-1)) (pc := 55) d_mo_sheet_55 kc_i_m1 ?_
  refine ev_icmp_ne (pc := 56) (tgt := 63) d_mo_sheet_56 (by decide) (fun c_1 => ?_) (fun c_1 => ?_)
  · have h_2 := hh.2.1 c_1
    refine ev_iload_n (x := x3) (pc := 63) d_mo_sheet_63 rfl ?_
    exact h_2
  · have h_3 := hh.2.2 c_1
    refine ev_iconst (v := 0) (pc := 59) d_mo_sheet_59 kc_i_0 ?_
    refine ev_goto (pc := 60) (tgt := 64) d_mo_sheet_60 (by decide) ?_
    exact h_3
theorem b_mo_sheet_64 {E : gp_E} {S : gp_S} {X : gp_H} {Q : Option Value → gp_H → Prop} {x1 : Int32} {x2 : Int32} {x3 : Int32} {t0 : Int32} {t1 : Int32} (hX : Lay S X)  (hh : (vp_in t1 3 ∧ Ev E m_mo_sheet 71 [(0, .ref 55), (1, .int x1), (2, .int x2), (3, .int x3), (4, .int (40 * x1))] [] (gp_sI X 105 (Int32.toNatClampNeg t1) t0) (0, 0) Q)) : Ev E m_mo_sheet 64 [(0, .ref 55), (1, .int x1), (2, .int x2), (3, .int x3)] [.int t0, .int t1, .ref 105] X (0, 0) Q := by
  refine ev_iast (pc := 64) d_mo_sheet_64 (ly_at hX 105 rfl) hh.1 ?_
  refine ev_bipush (v := 40) (pc := 65) d_mo_sheet_65 kc_b_40 ?_
  refine ev_iload_n (x := x1) (pc := 67) d_mo_sheet_67 rfl ?_
  refine ev_imul (pc := 68) d_mo_sheet_68 ?_
  refine ev_istore (L2 := [(0, .ref 55), (1, .int x1), (2, .int x2), (3, .int x3), (4, .int (40 * x1))]) (pc := 69) d_mo_sheet_69 rfl (Nat.le_of_ble_eq_true rfl) rfl ?_
  exact hh.2
theorem b_mo_sheet_71 {E : gp_E} {S : gp_S} {X : gp_H} {Q : Option Value → gp_H → Prop} {x1 : Int32} {x2 : Int32} {x3 : Int32} {x4 : Int32} (hX : Lay S X)  (hh : ((((40 * x1) + 40) ≤ x4 → Q (some (.int 1)) X) ∧ (¬ ((40 * x1) + 40) ≤ x4 → (vp_in x4 120 ∧ Ev E m_mo_sheet 71 [(0, .ref 55), (1, .int x1), (2, .int x2), (3, .int x3), (4, .int (x4 + 1))] [] (gp_sI X 106 (Int32.toNatClampNeg x4) 0) (0, 0) Q)))) : Ev E m_mo_sheet 71 [(0, .ref 55), (1, .int x1), (2, .int x2), (3, .int x3), (4, .int x4)] [] X (0, 0) Q := by
  refine ev_iload (x := x4) (pc := 71) d_mo_sheet_71 rfl ?_
  refine ev_bipush (v := 40) (pc := 73) d_mo_sheet_73 kc_b_40 ?_
  refine ev_iload_n (x := x1) (pc := 75) d_mo_sheet_75 rfl ?_
  refine ev_imul (pc := 76) d_mo_sheet_76 ?_
  refine ev_bipush (v := 40) (pc := 77) d_mo_sheet_77 kc_b_40 ?_
  refine ev_iadd (pc := 79) d_mo_sheet_79 ?_
  refine ev_icmp_ge (pc := 80) (tgt := 97) d_mo_sheet_80 (by decide) (fun c_1 => ?_) (fun c_1 => ?_)
  · have h_2 := hh.1 c_1
    refine ev_iconst (v := 1) (pc := 97) d_mo_sheet_97 kc_i_1 ?_
    exact ev_iret (pc := 98) ⟨Nat.le_of_ble_eq_true rfl, Nat.le_of_ble_eq_true rfl⟩ d_mo_sheet_98 rfl (vp_nar_int _) h_2
  · have h_3 := hh.2 c_1
    refine ev_aload_n (x := 55) (pc := 83) d_mo_sheet_83 rfl ?_
    refine ev_getR (pc := 84) d_mo_sheet_84 f_mo_168 (ly_at hX 55 rfl) gg_12 rfl (ly_rf hX 55 69 rfl) ?_
    refine ev_iload (x := x4) (pc := 87) d_mo_sheet_87 rfl ?_
    refine ev_iconst (v := 0) (pc := 89) d_mo_sheet_89 kc_i_0 ?_
    refine ev_iast (pc := 90) d_mo_sheet_90 (ly_at hX 106 rfl) h_3.1 ?_
    refine ev_iinc (v := (x4 + 1)) (L2 := [(0, .ref 55), (1, .int x1), (2, .int x2), (3, .int x3), (4, .int (x4 + 1))]) (pc := 91) d_mo_sheet_91 rfl (by rw [kc_i_1]) rfl (Nat.le_of_ble_eq_true rfl) rfl ?_
    refine ev_goto (pc := 94) (tgt := 71) d_mo_sheet_94 (by decide) ?_
    exact h_3.2
theorem b_mo_cell_0 {E : gp_E} {S : gp_S} {X : gp_H} {Q : Option Value → gp_H → Prop} {x1 : Int32} {x2 : Int32} {x3 : Int32} (hX : Lay S X)  (hh : (((iw x1 0 2) = true → (vp_in x1 3 ∧ ((¬ (gI X 104 (Int32.toNatClampNeg x1)) = (-1) → (((iw x2 0 ((gI X 105 (Int32.toNatClampNeg x1)) - 1)) = true → ((¬ (gI X 104 (Int32.toNatClampNeg x1)) = 0 → ((¬ (gI X 104 (Int32.toNatClampNeg x1)) = 1 → (vp_in ((40 * x1) + x2) 120 ∧ Q (some (.int 1)) (gp_sI X 106 (Int32.toNatClampNeg ((40 * x1) + x2)) x3))) ∧ ((gI X 104 (Int32.toNatClampNeg x1)) = 1 → (vp_in ((40 * x1) + x2) 120 ∧ Q (some (.int 1)) (gp_sI X 106 (Int32.toNatClampNeg ((40 * x1) + x2)) (Int16.toInt32 (Int32.toInt16 x3))))))) ∧ ((gI X 104 (Int32.toNatClampNeg x1)) = 0 → (vp_in ((40 * x1) + x2) 120 ∧ Q (some (.int 1)) (gp_sI X 106 (Int32.toNatClampNeg ((40 * x1) + x2)) (Int8.toInt32 (Int32.toInt8 x3))))))) ∧ ((iw x2 0 ((gI X 105 (Int32.toNatClampNeg x1)) - 1)) = false → Q (some (.int (-12))) X))) ∧ ((gI X 104 (Int32.toNatClampNeg x1)) = (-1) → Q (some (.int (-11))) X)))) ∧ ((iw x1 0 2) = false → Q (some (.int (-2))) X))) : Ev E m_mo_cell 0 [(0, .ref 55), (1, .int x1), (2, .int x2), (3, .int x3)] [] X (0, 0) Q := by
  refine ev_iload_n (x := x1) (pc := 0) d_mo_cell_0 rfl ?_
  refine ev_callS (z := m_mo_isSheet) (as := [.int x1]) (rest := []) (pc := 1) d_mo_cell_1 l_mo_257 i_mo_isSheet o_mo_isSheet rfl rfl (Nat.le_of_ble_eq_true rfl) rfl (Nat.le_of_ble_eq_true rfl) ⟨Nat.le_of_ble_eq_true rfl, Nat.le_of_ble_eq_true rfl⟩ (s_mo_isSheet hX x1 ) (fun r X1 hq => ?_)
  obtain ⟨rfl, rfl⟩ := hq
  show Ev E m_mo_cell 4 [(0, .ref 55), (1, .int x1), (2, .int x2), (3, .int x3)] [.int (bz (iw x1 0 2))] X (0, 0) Q
  refine ev_ifz_ne (pc := 4) (tgt := 10) d_mo_cell_4 (by decide) (fun c_1 => ?_) (fun c_1 => ?_)
  · have h_2 := hh.1 c_1
    refine ev_aload_n (x := 55) (pc := 10) d_mo_cell_10 rfl ?_
    refine ev_getR (pc := 11) d_mo_cell_11 f_mo_162 (ly_at hX 55 rfl) gg_12 rfl (ly_rf hX 55 67 rfl) ?_
    refine ev_iload_n (x := x1) (pc := 14) d_mo_cell_14 rfl ?_
    refine ev_ialdJ (v := (gI X 104 (Int32.toNatClampNeg x1))) (pc := 15) d_mo_cell_15 (ly_at hX 104 rfl) h_2.1 rfl ?_
    refine ev_iconst (v := (-1)) (pc := 16) d_mo_cell_16 kc_i_m1 ?_
    refine ev_icmp_ne (pc := 17) (tgt := 23) d_mo_cell_17 (by decide) (fun c_4 => ?_) (fun c_4 => ?_)
    · have h_5 := h_2.2.1 c_4
      refine ev_iload_n (x := x2) (pc := 23) d_mo_cell_23 rfl ?_
      refine ev_iconst (v := 0) (pc := 24) d_mo_cell_24 kc_i_0 ?_
      refine ev_aload_n (x := 55) (pc := 25) d_mo_cell_25 rfl ?_
      refine ev_getR (pc := 26) d_mo_cell_26 f_mo_165 (ly_at hX 55 rfl) gg_12 rfl (ly_rf hX 55 68 rfl) ?_
      refine ev_iload_n (x := x1) (pc := 29) d_mo_cell_29 rfl ?_
      refine ev_ialdJ (v := (gI X 105 (Int32.toNatClampNeg x1))) (pc := 30) d_mo_cell_30 (ly_at hX 105 rfl) h_2.1 rfl ?_
      refine ev_iconst (v := 1) (pc := 31) d_mo_cell_31 kc_i_1 ?_
      refine ev_isub (pc := 32) d_mo_cell_32 ?_
      refine ev_callS (z := m_mo_in) (as := [.int x2, .int 0, .int ((gI X 105 (Int32.toNatClampNeg x1)) - 1)]) (rest := []) (pc := 33) d_mo_cell_33 l_mo_196 i_mo_in o_mo_in rfl rfl (Nat.le_of_ble_eq_true rfl) rfl (Nat.le_of_ble_eq_true rfl) ⟨Nat.le_of_ble_eq_true rfl, Nat.le_of_ble_eq_true rfl⟩ (s_mo_in hX x2 0 ((gI X 105 (Int32.toNatClampNeg x1)) - 1)) (fun r X1 hq => ?_)
      obtain ⟨rfl, rfl⟩ := hq
      show Ev E m_mo_cell 36 [(0, .ref 55), (1, .int x1), (2, .int x2), (3, .int x3)] [.int (bz (iw x2 0 ((gI X 105 (Int32.toNatClampNeg x1)) - 1)))] X (0, 0) Q
      refine ev_ifz_ne (pc := 36) (tgt := 42) d_mo_cell_36 (by decide) (fun c_7 => ?_) (fun c_7 => ?_)
      · have h_8 := h_5.1 c_7
        refine ev_aload_n (x := 55) (pc := 42) d_mo_cell_42 rfl ?_
        refine ev_getR (pc := 43) d_mo_cell_43 f_mo_168 (ly_at hX 55 rfl) gg_12 rfl (ly_rf hX 55 69 rfl) ?_
        refine ev_bipush (v := 40) (pc := 46) d_mo_cell_46 kc_b_40 ?_
        refine ev_iload_n (x := x1) (pc := 48) d_mo_cell_48 rfl ?_
        refine ev_imul (pc := 49) d_mo_cell_49 ?_
        refine ev_iload_n (x := x2) (pc := 50) d_mo_cell_50 rfl ?_
        refine ev_iadd (pc := 51) d_mo_cell_51 ?_
        refine ev_aload_n (x := 55) (pc := 52) d_mo_cell_52 rfl ?_
        refine ev_getR (pc := 53) d_mo_cell_53 f_mo_162 (ly_at hX 55 rfl) gg_12 rfl (ly_rf hX 55 67 rfl) ?_
        refine ev_iload_n (x := x1) (pc := 56) d_mo_cell_56 rfl ?_
        refine ev_ialdJ (v := (gI X 104 (Int32.toNatClampNeg x1))) (pc := 57) d_mo_cell_57 (ly_at hX 104 rfl) h_2.1 rfl ?_
        refine ev_if_ne (pc := 58) (tgt := 66) d_mo_cell_58 (by decide) (fun c_10 => ?_) (fun c_10 => ?_)
        · have h_11 := h_8.1 c_10
          refine ev_aload_n (x := 55) (pc := 66) d_mo_cell_66 rfl ?_
          refine ev_getR (pc := 67) d_mo_cell_67 f_mo_162 (ly_at hX 55 rfl) gg_12 rfl (ly_rf hX 55 67 rfl) ?_
          refine ev_iload_n (x := x1) (pc := 70) d_mo_cell_70 rfl ?_
          refine ev_ialdJ (v := (gI X 104 (Int32.toNatClampNeg x1))) (pc := 71) d_mo_cell_71 (ly_at hX 104 rfl) h_2.1 rfl ?_
          refine ev_iconst (v := 1) (pc := 72) d_mo_cell_72 kc_i_1 ?_
          refine ev_icmp_ne (pc := 73) (tgt := 81) d_mo_cell_73 (by decide) (fun c_13 => ?_) (fun c_13 => ?_)
          · have h_14 := h_11.1 c_13
            refine ev_iload_n (x := x3) (pc := 81) d_mo_cell_81 rfl ?_
            refine ev_iast (pc := 82) d_mo_cell_82 (ly_at hX 106 rfl) h_14.1 ?_
            refine ev_iconst (v := 1) (pc := 83) d_mo_cell_83 kc_i_1 ?_
            exact ev_iret (pc := 84) ⟨Nat.le_of_ble_eq_true rfl, Nat.le_of_ble_eq_true rfl⟩ d_mo_cell_84 rfl (vp_nar_int _) h_14.2
          · have h_15 := h_11.2 c_13
            refine ev_iload_n (x := x3) (pc := 76) d_mo_cell_76 rfl ?_
            refine ev_i2s (pc := 77) d_mo_cell_77 ?_
            refine ev_goto (pc := 78) (tgt := 82) d_mo_cell_78 (by decide) ?_
            refine ev_iast (pc := 82) d_mo_cell_82 (ly_at hX 106 rfl) h_15.1 ?_
            refine ev_iconst (v := 1) (pc := 83) d_mo_cell_83 kc_i_1 ?_
            exact ev_iret (pc := 84) ⟨Nat.le_of_ble_eq_true rfl, Nat.le_of_ble_eq_true rfl⟩ d_mo_cell_84 rfl (vp_nar_int _) h_15.2
        · have h_12 := h_8.2 c_10
          refine ev_iload_n (x := x3) (pc := 61) d_mo_cell_61 rfl ?_
          refine ev_i2b (pc := 62) d_mo_cell_62 ?_
          refine ev_goto (pc := 63) (tgt := 82) d_mo_cell_63 (by decide) ?_
          refine ev_iast (pc := 82) d_mo_cell_82 (ly_at hX 106 rfl) h_12.1 ?_
          refine ev_iconst (v := 1) (pc := 83) d_mo_cell_83 kc_i_1 ?_
          exact ev_iret (pc := 84) ⟨Nat.le_of_ble_eq_true rfl, Nat.le_of_ble_eq_true rfl⟩ d_mo_cell_84 rfl (vp_nar_int _) h_12.2
      · have h_9 := h_5.2 c_7
        refine ev_bipush (v := (-12)) (pc := 39) d_mo_cell_39 kc_b_m12 ?_
        exact ev_iret (pc := 41) ⟨Nat.le_of_ble_eq_true rfl, Nat.le_of_ble_eq_true rfl⟩ d_mo_cell_41 rfl (vp_nar_int _) h_9
    · have h_6 := h_2.2.2 c_4
      refine ev_bipush (v := (-11)) (pc := 20) d_mo_cell_20 kc_b_m11 ?_
      exact ev_iret (pc := 22) ⟨Nat.le_of_ble_eq_true rfl, Nat.le_of_ble_eq_true rfl⟩ d_mo_cell_22 rfl (vp_nar_int _) h_6
  · have h_3 := hh.2 c_1
    refine ev_bipush (v := (-2)) (pc := 7) d_mo_cell_7 kc_b_m2 ?_
    exact ev_iret (pc := 9) ⟨Nat.le_of_ble_eq_true rfl, Nat.le_of_ble_eq_true rfl⟩ d_mo_cell_9 rfl (vp_nar_int _) h_3
theorem b_mo_copy_0 {E : gp_E} {S : gp_S} {X : gp_H} {Q : Option Value → gp_H → Prop} {x1 : Int32} {x2 : Int32} {x3 : Int32} {x4 : Int32} {x5 : Int32} (hX : Lay S X)  (hh : (((iw x1 0 2) = false → Q (some (.int (-2))) X) ∧ ((iw x1 0 2) = true → (((iw x3 0 2) = true → (vp_in x1 3 ∧ (((gI X 104 (Int32.toNatClampNeg x1)) = (-1) → Q (some (.int (-11))) X) ∧ (¬ (gI X 104 (Int32.toNatClampNeg x1)) = (-1) → (vp_in x3 3 ∧ ((¬ (gI X 104 (Int32.toNatClampNeg x3)) = (-1) → (((gI X 104 (Int32.toNatClampNeg x1)) = (gI X 104 (Int32.toNatClampNeg x3)) → ((x5 < 0 → Q (some (.int (-12))) X) ∧ (¬ x5 < 0 → ((x2 < 0 → Q (some (.int (-12))) X) ∧ (¬ x2 < 0 → ((x4 < 0 → Q (some (.int (-12))) X) ∧ (¬ x4 < 0 → ((((gI X 105 (Int32.toNatClampNeg x1)) - x2) < x5 → Q (some (.int (-12))) X) ∧ (¬ ((gI X 105 (Int32.toNatClampNeg x1)) - x2) < x5 → ((x5 ≤ ((gI X 105 (Int32.toNatClampNeg x3)) - x4) → Ev E m_mo_copy 105 [(0, .ref 55), (1, .int x1), (2, .int x2), (3, .int x3), (4, .int x4), (5, .int x5), (6, .int 0)] [] X (0, 0) Q) ∧ (¬ x5 ≤ ((gI X 105 (Int32.toNatClampNeg x3)) - x4) → Q (some (.int (-12))) X))))))))))) ∧ (¬ (gI X 104 (Int32.toNatClampNeg x1)) = (gI X 104 (Int32.toNatClampNeg x3)) → Q (some (.int (-13))) X))) ∧ ((gI X 104 (Int32.toNatClampNeg x3)) = (-1) → Q (some (.int (-11))) X))))))) ∧ ((iw x3 0 2) = false → Q (some (.int (-2))) X))))) : Ev E m_mo_copy 0 [(0, .ref 55), (1, .int x1), (2, .int x2), (3, .int x3), (4, .int x4), (5, .int x5)] [] X (0, 0) Q := by
  refine ev_iload_n (x := x1) (pc := 0) d_mo_copy_0 rfl ?_
  refine ev_callS (z := m_mo_isSheet) (as := [.int x1]) (rest := []) (pc := 1) d_mo_copy_1 l_mo_257 i_mo_isSheet o_mo_isSheet rfl rfl (Nat.le_of_ble_eq_true rfl) rfl (Nat.le_of_ble_eq_true rfl) ⟨Nat.le_of_ble_eq_true rfl, Nat.le_of_ble_eq_true rfl⟩ (s_mo_isSheet hX x1 ) (fun r X1 hq => ?_)
  obtain ⟨rfl, rfl⟩ := hq
  show Ev E m_mo_copy 4 [(0, .ref 55), (1, .int x1), (2, .int x2), (3, .int x3), (4, .int x4), (5, .int x5)] [.int (bz (iw x1 0 2))] X (0, 0) Q
  refine ev_ifz_eq (pc := 4) (tgt := 14) d_mo_copy_4 (by decide) (fun c_1 => ?_) (fun c_1 => ?_)
  · have h_2 := hh.1 c_1
    refine ev_bipush (v := (-2)) (pc := 14) d_mo_copy_14 kc_b_m2 ?_
    exact ev_iret (pc := 16) ⟨Nat.le_of_ble_eq_true rfl, Nat.le_of_ble_eq_true rfl⟩ d_mo_copy_16 rfl (vp_nar_int _) h_2
  · have h_3 := hh.2 c_1
    refine ev_iload_n (x := x3) (pc := 7) d_mo_copy_7 rfl ?_
    refine ev_callS (z := m_mo_isSheet) (as := [.int x3]) (rest := []) (pc := 8) d_mo_copy_8 l_mo_257 i_mo_isSheet o_mo_isSheet rfl rfl (Nat.le_of_ble_eq_true rfl) rfl (Nat.le_of_ble_eq_true rfl) ⟨Nat.le_of_ble_eq_true rfl, Nat.le_of_ble_eq_true rfl⟩ (s_mo_isSheet hX x3 ) (fun r X1 hq => ?_)
    obtain ⟨rfl, rfl⟩ := hq
    show Ev E m_mo_copy 11 [(0, .ref 55), (1, .int x1), (2, .int x2), (3, .int x3), (4, .int x4), (5, .int x5)] [.int (bz (iw x3 0 2))] X (0, 0) Q
    refine ev_ifz_ne (pc := 11) (tgt := 17) d_mo_copy_11 (by decide) (fun c_4 => ?_) (fun c_4 => ?_)
    · have h_5 := h_3.1 c_4
      refine ev_aload_n (x := 55) (pc := 17) d_mo_copy_17 rfl ?_
      refine ev_getR (pc := 18) d_mo_copy_18 f_mo_162 (ly_at hX 55 rfl) gg_12 rfl (ly_rf hX 55 67 rfl) ?_
      refine ev_iload_n (x := x1) (pc := 21) d_mo_copy_21 rfl ?_
      refine ev_ialdJ (v := (gI X 104 (Int32.toNatClampNeg x1))) (pc := 22) d_mo_copy_22 (ly_at hX 104 rfl) h_5.1 rfl ?_
      refine ev_iconst (v := (-1)) (pc := 23) d_mo_copy_23 kc_i_m1 ?_
      refine ev_icmp_eq (pc := 24) (tgt := 37) d_mo_copy_24 (by decide) (fun c_7 => ?_) (fun c_7 => ?_)
      · have h_8 := h_5.2.1 c_7
        refine ev_bipush (v := (-11)) (pc := 37) d_mo_copy_37 kc_b_m11 ?_
        exact ev_iret (pc := 39) ⟨Nat.le_of_ble_eq_true rfl, Nat.le_of_ble_eq_true rfl⟩ d_mo_copy_39 rfl (vp_nar_int _) h_8
      · have h_9 := h_5.2.2 c_7
        refine ev_aload_n (x := 55) (pc := 27) d_mo_copy_27 rfl ?_
        refine ev_getR (pc := 28) d_mo_copy_28 f_mo_162 (ly_at hX 55 rfl) gg_12 rfl (ly_rf hX 55 67 rfl) ?_
        refine ev_iload_n (x := x3) (pc := 31) d_mo_copy_31 rfl ?_
        refine ev_ialdJ (v := (gI X 104 (Int32.toNatClampNeg x3))) (pc := 32) d_mo_copy_32 (ly_at hX 104 rfl) h_9.1 rfl ?_
        refine ev_iconst (v := (-1)) (pc := 33) d_mo_copy_33 kc_i_m1 ?_
        refine ev_icmp_ne (pc := 34) (tgt := 40) d_mo_copy_34 (by decide) (fun c_10 => ?_) (fun c_10 => ?_)
        · have h_11 := h_9.2.1 c_10
          refine ev_aload_n (x := 55) (pc := 40) d_mo_copy_40 rfl ?_
          refine ev_getR (pc := 41) d_mo_copy_41 f_mo_162 (ly_at hX 55 rfl) gg_12 rfl (ly_rf hX 55 67 rfl) ?_
          refine ev_iload_n (x := x1) (pc := 44) d_mo_copy_44 rfl ?_
          refine ev_ialdJ (v := (gI X 104 (Int32.toNatClampNeg x1))) (pc := 45) d_mo_copy_45 (ly_at hX 104 rfl) h_5.1 rfl ?_
          refine ev_aload_n (x := 55) (pc := 46) d_mo_copy_46 rfl ?_
          refine ev_getR (pc := 47) d_mo_copy_47 f_mo_162 (ly_at hX 55 rfl) gg_12 rfl (ly_rf hX 55 67 rfl) ?_
          refine ev_iload_n (x := x3) (pc := 50) d_mo_copy_50 rfl ?_
          refine ev_ialdJ (v := (gI X 104 (Int32.toNatClampNeg x3))) (pc := 51) d_mo_copy_51 (ly_at hX 104 rfl) h_9.1 rfl ?_
          refine ev_icmp_eq (pc := 52) (tgt := 58) d_mo_copy_52 (by decide) (fun c_13 => ?_) (fun c_13 => ?_)
          · have h_14 := h_11.1 c_13
            refine ev_iload (x := x5) (pc := 58) d_mo_copy_58 rfl ?_
            refine ev_if_lt (pc := 60) (tgt := 99) d_mo_copy_60 (by decide) (fun c_16 => ?_) (fun c_16 => ?_)
            · have h_17 := h_14.1 c_16
              refine ev_bipush (v := (-12)) (pc := 99) d_mo_copy_99 kc_b_m12 ?_
              exact ev_iret (pc := 101) ⟨Nat.le_of_ble_eq_true rfl, Nat.le_of_ble_eq_true rfl⟩ d_mo_copy_101 rfl (vp_nar_int _) h_17
            · have h_18 := h_14.2 c_16
              refine ev_iload_n (x := x2) (pc := 63) d_mo_copy_63 rfl ?_
              refine ev_if_lt (pc := 64) (tgt := 99) d_mo_copy_64 (by decide) (fun c_19 => ?_) (fun c_19 => ?_)
              · have h_20 := h_18.1 c_19
                refine ev_bipush (v := (-12)) (pc := 99) d_mo_copy_99 kc_b_m12 ?_
                exact ev_iret (pc := 101) ⟨Nat.le_of_ble_eq_true rfl, Nat.le_of_ble_eq_true rfl⟩ d_mo_copy_101 rfl (vp_nar_int _) h_20
              · have h_21 := h_18.2 c_19
                refine ev_iload (x := x4) (pc := 67) d_mo_copy_67 rfl ?_
                refine ev_if_lt (pc := 69) (tgt := 99) d_mo_copy_69 (by decide) (fun c_22 => ?_) (fun c_22 => ?_)
                · have h_23 := h_21.1 c_22
                  refine ev_bipush (v := (-12)) (pc := 99) d_mo_copy_99 kc_b_m12 ?_
                  exact ev_iret (pc := 101) ⟨Nat.le_of_ble_eq_true rfl, Nat.le_of_ble_eq_true rfl⟩ d_mo_copy_101 rfl (vp_nar_int _) h_23
                · have h_24 := h_21.2 c_22
                  refine ev_iload (x := x5) (pc := 72) d_mo_copy_72 rfl ?_
                  refine ev_aload_n (x := 55) (pc := 74) d_mo_copy_74 rfl ?_
                  refine ev_getR (pc := 75) d_mo_copy_75 f_mo_165 (ly_at hX 55 rfl) gg_12 rfl (ly_rf hX 55 68 rfl) ?_
                  refine ev_iload_n (x := x1) (pc := 78) d_mo_copy_78 rfl ?_
                  refine ev_ialdJ (v := (gI X 105 (Int32.toNatClampNeg x1))) (pc := 79) d_mo_copy_79 (ly_at hX 105 rfl) h_5.1 rfl ?_
                  refine ev_iload_n (x := x2) (pc := 80) d_mo_copy_80 rfl ?_
                  refine ev_isub (pc := 81) d_mo_copy_81 ?_
                  refine ev_icmp_gt (pc := 82) (tgt := 99) d_mo_copy_82 (by decide) (fun c_25 => ?_) (fun c_25 => ?_)
                  · have h_26 := h_24.1 c_25
                    refine ev_bipush (v := (-12)) (pc := 99) d_mo_copy_99 kc_b_m12 ?_
                    exact ev_iret (pc := 101) ⟨Nat.le_of_ble_eq_true rfl, Nat.le_of_ble_eq_true rfl⟩ d_mo_copy_101 rfl (vp_nar_int _) h_26
                  · have h_27 := h_24.2 c_25
                    refine ev_iload (x := x5) (pc := 85) d_mo_copy_85 rfl ?_
                    refine ev_aload_n (x := 55) (pc := 87) d_mo_copy_87 rfl ?_
                    refine ev_getR (pc := 88) d_mo_copy_88 f_mo_165 (ly_at hX 55 rfl) gg_12 rfl (ly_rf hX 55 68 rfl) ?_
                    refine ev_iload_n (x := x3) (pc := 91) d_mo_copy_91 rfl ?_
                    refine ev_ialdJ (v := (gI X 105 (Int32.toNatClampNeg x3))) (pc := 92) d_mo_copy_92 (ly_at hX 105 rfl) h_9.1 rfl ?_
                    refine ev_iload (x := x4) (pc := 93) d_mo_copy_93 rfl ?_
                    refine ev_isub (pc := 95) d_mo_copy_95 ?_
                    refine ev_icmp_le (pc := 96) (tgt := 102) d_mo_copy_96 (by decide) (fun c_28 => ?_) (fun c_28 => ?_)
                    · have h_29 := h_27.1 c_28
                      refine ev_iconst (v := 0) (pc := 102) d_mo_copy_102 kc_i_0 ?_
                      refine ev_istore (L2 := [(0, .ref 55), (1, .int x1), (2, .int x2), (3, .int x3), (4, .int x4), (5, .int x5), (6, .int 0)]) (pc := 103) d_mo_copy_103 rfl (Nat.le_of_ble_eq_true rfl) rfl ?_
                      exact h_29
                    · have h_30 := h_27.2 c_28
                      refine ev_bipush (v := (-12)) (pc := 99) d_mo_copy_99 kc_b_m12 ?_
                      exact ev_iret (pc := 101) ⟨Nat.le_of_ble_eq_true rfl, Nat.le_of_ble_eq_true rfl⟩ d_mo_copy_101 rfl (vp_nar_int _) h_30
          · have h_15 := h_11.2 c_13
            refine ev_bipush (v := (-13)) (pc := 55) d_mo_copy_55 kc_b_m13 ?_
            exact ev_iret (pc := 57) ⟨Nat.le_of_ble_eq_true rfl, Nat.le_of_ble_eq_true rfl⟩ d_mo_copy_57 rfl (vp_nar_int _) h_15
        · have h_12 := h_9.2.2 c_10
          refine ev_bipush (v := (-11)) (pc := 37) d_mo_copy_37 kc_b_m11 ?_
          exact ev_iret (pc := 39) ⟨Nat.le_of_ble_eq_true rfl, Nat.le_of_ble_eq_true rfl⟩ d_mo_copy_39 rfl (vp_nar_int _) h_12
    · have h_6 := h_3.2 c_4
      refine ev_bipush (v := (-2)) (pc := 14) d_mo_copy_14 kc_b_m2 ?_
      exact ev_iret (pc := 16) ⟨Nat.le_of_ble_eq_true rfl, Nat.le_of_ble_eq_true rfl⟩ d_mo_copy_16 rfl (vp_nar_int _) h_6
theorem b_mo_copy_105 {E : gp_E} {S : gp_S} {X : gp_H} {Q : Option Value → gp_H → Prop} {x1 : Int32} {x2 : Int32} {x3 : Int32} {x4 : Int32} {x5 : Int32} {x6 : Int32} (hX : Lay S X)  (hh : ((x5 ≤ x6 → Ev E m_mo_copy 142 [(0, .ref 55), (1, .int x1), (2, .int x2), (3, .int x3), (4, .int x4), (5, .int x5), (6, .int 0)] [] X (0, 0) Q) ∧ (¬ x5 ≤ x6 → (vp_in (((40 * x1) + x2) + x6) 120 ∧ (vp_in x6 40 ∧ Ev E m_mo_copy 105 [(0, .ref 55), (1, .int x1), (2, .int x2), (3, .int x3), (4, .int x4), (5, .int x5), (6, .int (x6 + 1))] [] (gp_sI X 113 (Int32.toNatClampNeg x6) (gI X 106 (Int32.toNatClampNeg (((40 * x1) + x2) + x6)))) (0, 0) Q))))) : Ev E m_mo_copy 105 [(0, .ref 55), (1, .int x1), (2, .int x2), (3, .int x3), (4, .int x4), (5, .int x5), (6, .int x6)] [] X (0, 0) Q := by
  refine ev_iload (x := x6) (pc := 105) d_mo_copy_105 rfl ?_
  refine ev_iload (x := x5) (pc := 107) d_mo_copy_107 rfl ?_
  refine ev_icmp_ge (pc := 109) (tgt := 139) d_mo_copy_109 (by decide) (fun c_1 => ?_) (fun c_1 => ?_)
  · have h_2 := hh.1 c_1
    refine ev_iconst (v := 0) (pc := 139) d_mo_copy_139 kc_i_0 ?_
    refine ev_istore (L2 := [(0, .ref 55), (1, .int x1), (2, .int x2), (3, .int x3), (4, .int x4), (5, .int x5), (6, .int 0)]) (pc := 140) d_mo_copy_140 rfl (Nat.le_of_ble_eq_true rfl) rfl ?_
    exact h_2
  · have h_3 := hh.2 c_1
    refine ev_aload_n (x := 55) (pc := 112) d_mo_copy_112 rfl ?_
    refine ev_getR (pc := 113) d_mo_copy_113 f_mo_190 (ly_at hX 55 rfl) gg_12 rfl (ly_rf hX 55 78 rfl) ?_
    refine ev_iload (x := x6) (pc := 116) d_mo_copy_116 rfl ?_
    refine ev_aload_n (x := 55) (pc := 118) d_mo_copy_118 rfl ?_
    refine ev_getR (pc := 119) d_mo_copy_119 f_mo_168 (ly_at hX 55 rfl) gg_12 rfl (ly_rf hX 55 69 rfl) ?_
    refine ev_bipush (v := 40) (pc := 122) d_mo_copy_122 kc_b_40 ?_
    refine ev_iload_n (x := x1) (pc := 124) d_mo_copy_124 rfl ?_
    refine ev_imul (pc := 125) d_mo_copy_125 ?_
    refine ev_iload_n (x := x2) (pc := 126) d_mo_copy_126 rfl ?_
    refine ev_iadd (pc := 127) d_mo_copy_127 ?_
    refine ev_iload (x := x6) (pc := 128) d_mo_copy_128 rfl ?_
    refine ev_iadd (pc := 130) d_mo_copy_130 ?_
    refine ev_ialdJ (v := (gI X 106 (Int32.toNatClampNeg (((40 * x1) + x2) + x6)))) (pc := 131) d_mo_copy_131 (ly_at hX 106 rfl) h_3.1 rfl ?_
    refine ev_iast (pc := 132) d_mo_copy_132 (ly_at hX 113 rfl) h_3.2.1 ?_
    refine ev_iinc (v := (x6 + 1)) (L2 := [(0, .ref 55), (1, .int x1), (2, .int x2), (3, .int x3), (4, .int x4), (5, .int x5), (6, .int (x6 + 1))]) (pc := 133) d_mo_copy_133 rfl (by rw [kc_i_1]) rfl (Nat.le_of_ble_eq_true rfl) rfl ?_
    refine ev_goto (pc := 136) (tgt := 105) d_mo_copy_136 (by decide) ?_
    exact h_3.2.2
theorem b_mo_copy_142 {E : gp_E} {S : gp_S} {X : gp_H} {Q : Option Value → gp_H → Prop} {x1 : Int32} {x2 : Int32} {x3 : Int32} {x4 : Int32} {x5 : Int32} {x6 : Int32} (hX : Lay S X)  (hh : ((x5 ≤ x6 → Q (some (.int x5)) X) ∧ (¬ x5 ≤ x6 → (vp_in x6 40 ∧ (vp_in (((40 * x3) + x4) + x6) 120 ∧ Ev E m_mo_copy 142 [(0, .ref 55), (1, .int x1), (2, .int x2), (3, .int x3), (4, .int x4), (5, .int x5), (6, .int (x6 + 1))] [] (gp_sI X 106 (Int32.toNatClampNeg (((40 * x3) + x4) + x6)) (gI X 113 (Int32.toNatClampNeg x6))) (0, 0) Q))))) : Ev E m_mo_copy 142 [(0, .ref 55), (1, .int x1), (2, .int x2), (3, .int x3), (4, .int x4), (5, .int x5), (6, .int x6)] [] X (0, 0) Q := by
  refine ev_iload (x := x6) (pc := 142) d_mo_copy_142 rfl ?_
  refine ev_iload (x := x5) (pc := 144) d_mo_copy_144 rfl ?_
  refine ev_icmp_ge (pc := 146) (tgt := 177) d_mo_copy_146 (by decide) (fun c_1 => ?_) (fun c_1 => ?_)
  · have h_2 := hh.1 c_1
    refine ev_iload (x := x5) (pc := 177) d_mo_copy_177 rfl ?_
    exact ev_iret (pc := 179) ⟨Nat.le_of_ble_eq_true rfl, Nat.le_of_ble_eq_true rfl⟩ d_mo_copy_179 rfl (vp_nar_int _) h_2
  · have h_3 := hh.2 c_1
    refine ev_aload_n (x := 55) (pc := 149) d_mo_copy_149 rfl ?_
    refine ev_getR (pc := 150) d_mo_copy_150 f_mo_168 (ly_at hX 55 rfl) gg_12 rfl (ly_rf hX 55 69 rfl) ?_
    refine ev_bipush (v := 40) (pc := 153) d_mo_copy_153 kc_b_40 ?_
    refine ev_iload_n (x := x3) (pc := 155) d_mo_copy_155 rfl ?_
    refine ev_imul (pc := 156) d_mo_copy_156 ?_
    refine ev_iload (x := x4) (pc := 157) d_mo_copy_157 rfl ?_
    refine ev_iadd (pc := 159) d_mo_copy_159 ?_
    refine ev_iload (x := x6) (pc := 160) d_mo_copy_160 rfl ?_
    refine ev_iadd (pc := 162) d_mo_copy_162 ?_
    refine ev_aload_n (x := 55) (pc := 163) d_mo_copy_163 rfl ?_
    refine ev_getR (pc := 164) d_mo_copy_164 f_mo_190 (ly_at hX 55 rfl) gg_12 rfl (ly_rf hX 55 78 rfl) ?_
    refine ev_iload (x := x6) (pc := 167) d_mo_copy_167 rfl ?_
    refine ev_ialdJ (v := (gI X 113 (Int32.toNatClampNeg x6))) (pc := 169) d_mo_copy_169 (ly_at hX 113 rfl) h_3.1 rfl ?_
    refine ev_iast (pc := 170) d_mo_copy_170 (ly_at hX 106 rfl) h_3.2.1 ?_
    refine ev_iinc (v := (x6 + 1)) (L2 := [(0, .ref 55), (1, .int x1), (2, .int x2), (3, .int x3), (4, .int x4), (5, .int x5), (6, .int (x6 + 1))]) (pc := 171) d_mo_copy_171 rfl (by rw [kc_i_1]) rfl (Nat.le_of_ble_eq_true rfl) rfl ?_
    refine ev_goto (pc := 174) (tgt := 142) d_mo_copy_174 (by decide) ?_
    exact h_3.2.2
