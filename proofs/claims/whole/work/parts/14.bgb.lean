theorem b_ga_countLack_0 {E : gp_E} {S : gp_S} {X : gp_H} {Q : Option Value → gp_H → Prop}  (hX : Lay S X)  (hh : (∃ Qz_1, Ev E m_ar_fill 0 [(0, .ref 27), (1, .int 0)] [] X (0, 0) Qz_1 ∧ ∀ r X_4, Qz_1 r X_4 → (r = none ∧ Lay S X_4 ∧ Ev E m_ga_countLack 15 [(0, .ref 0), (1, .ref 27), (2, .int 0)] [] X_4 (0, 0) Q))) : Ev E m_ga_countLack 0 [(0, .ref 0)] [] X (0, 0) Q := by
  refine ev_aload_n (x := 0) (pc := 0) d_ga_countLack_0 rfl ?_
  refine ev_getR (pc := 1) d_ga_countLack_1 f_ga_62 (ly_at hX 0 rfl) gg_11 rfl (ly_rf hX 0 15 rfl) ?_
  refine ev_getR (pc := 4) d_ga_countLack_4 f_ga_514 (ly_at hX 23 rfl) gg_8 rfl (ly_rf hX 23 8 rfl) ?_
  refine ev_astore_n (L2 := [(0, .ref 0), (1, .ref 27)]) (pc := 7) d_ga_countLack_7 rfl (Nat.le_of_ble_eq_true rfl) rfl ?_
  refine ev_aload_n (x := 27) (pc := 8) d_ga_countLack_8 rfl ?_
  refine ev_iconst (v := 0) (pc := 9) d_ga_countLack_9 kc_i_0 ?_
  obtain ⟨Qz_1, hc_2, hk_3⟩ := hh
  refine ev_callS (z := m_ar_fill) (as := [.ref 27, .int 0]) (rest := []) (pc := 10) d_ga_countLack_10 l_ga_464 i_ar_fill o_ar_fill rfl rfl (Nat.le_of_ble_eq_true rfl) rfl (Nat.le_of_ble_eq_true rfl) ⟨Nat.le_of_ble_eq_true rfl, Nat.le_of_ble_eq_true rfl⟩ hc_2 (fun r_5 X_4 hq_6 => ?_)
  obtain ⟨rfl, hX_8, h_7⟩ := hk_3 _ _ hq_6
  show Ev E m_ga_countLack 13 [(0, .ref 0), (1, .ref 27)] [] X_4 (0, 0) Q
  refine ev_iconst (v := 0) (pc := 13) d_ga_countLack_13 kc_i_0 ?_
  refine ev_istore_n (L2 := [(0, .ref 0), (1, .ref 27), (2, .int 0)]) (pc := 14) d_ga_countLack_14 rfl (Nat.le_of_ble_eq_true rfl) rfl ?_
  exact h_7
theorem b_ga_countLack_15 {E : gp_E} {S : gp_S} {X : gp_H} {Q : Option Value → gp_H → Prop} {x2 : Int32} (hX : Lay S X)  (hh : (((gI X 0 6) ≤ x2 → Ev E m_ga_countLack 67 [(0, .ref 0), (1, .ref 27), (2, .int 0)] [] X (0, 0) Q) ∧ (¬ (gI X 0 6) ≤ x2 → (vp_in x2 40 ∧ ∃ r_4 : Nat, X.2.2.1 16 (Int32.toNatClampNeg x2) = some r_4 ∧ gp_at X r_4 (3, 0) ∧ (((gI X r_4 4) = 2 → Ev E m_ga_countLack 15 [(0, .ref 0), (1, .ref 27), (2, .int (x2 + 1))] [] X (0, 0) Q) ∧ (¬ (gI X r_4 4) = 2 → (vp_in x2 40 ∧ ∃ r_12 : Nat, X.2.2.1 16 (Int32.toNatClampNeg x2) = some r_12 ∧ gp_at X r_12 (3, 0) ∧ (vp_in (gI X r_12 0) 12 ∧ (vp_in x2 40 ∧ ∃ r_17 : Nat, X.2.2.1 16 (Int32.toNatClampNeg x2) = some r_17 ∧ gp_at X r_17 (3, 0) ∧ Ev E m_ga_countLack 15 [(0, .ref 0), (1, .ref 27), (2, .int (x2 + 1))] [] (gp_sI X 27 (Int32.toNatClampNeg (gI X r_12 0)) ((gI X 27 (Int32.toNatClampNeg (gI X r_12 0))) + (gI X r_17 1))) (0, 0) Q))))))))) : Ev E m_ga_countLack 15 [(0, .ref 0), (1, .ref 27), (2, .int x2)] [] X (0, 0) Q := by
  refine ev_iload_n (x := x2) (pc := 15) d_ga_countLack_15 rfl ?_
  refine ev_aload_n (x := 0) (pc := 16) d_ga_countLack_16 rfl ?_
  refine ev_getJ (v := (gI X 0 6)) (pc := 17) d_ga_countLack_17 f_ga_198 (ly_at hX 0 rfl) gg_11 rfl rfl ?_
  refine ev_icmp_ge (pc := 20) (tgt := 65) d_ga_countLack_20 (by decide) (fun c_1 => ?_) (fun c_1 => ?_)
  · have h_2 := hh.1 c_1
    refine ev_iconst (v := 0) (pc := 65) d_ga_countLack_65 kc_i_0 ?_
    refine ev_istore_n (L2 := [(0, .ref 0), (1, .ref 27), (2, .int 0)]) (pc := 66) d_ga_countLack_66 rfl (Nat.le_of_ble_eq_true rfl) rfl ?_
    exact h_2
  · have h_3 := hh.2 c_1
    refine ev_aload_n (x := 0) (pc := 23) d_ga_countLack_23 rfl ?_
    refine ev_getR (pc := 24) d_ga_countLack_24 f_ga_35 (ly_at hX 0 rfl) gg_11 rfl (ly_rf hX 0 5 rfl) ?_
    refine ev_iload_n (x := x2) (pc := 27) d_ga_countLack_27 rfl ?_
    obtain ⟨hv_7, r_4, hq_6, hb_5, h_8⟩ := h_3
    refine ev_ald4 (pc := 28) d_ga_countLack_28 (ly_at hX 16 rfl) hv_7 hq_6 ?_
    refine ev_getJ (v := (gI X r_4 4)) (pc := 29) d_ga_countLack_29 f_ga_249 hb_5 gg_3 rfl rfl ?_
    refine ev_iconst (v := 2) (pc := 32) d_ga_countLack_32 kc_i_2 ?_
    refine ev_icmp_eq (pc := 33) (tgt := 59) d_ga_countLack_33 (by decide) (fun c_9 => ?_) (fun c_9 => ?_)
    · have h_10 := h_8.1 c_9
      refine ev_iinc (v := (x2 + 1)) (L2 := [(0, .ref 0), (1, .ref 27), (2, .int (x2 + 1))]) (pc := 59) d_ga_countLack_59 rfl (by rw [kc_i_1]) rfl (Nat.le_of_ble_eq_true rfl) rfl ?_
      refine ev_goto (pc := 62) (tgt := 15) d_ga_countLack_62 (by decide) ?_
      exact h_10
    · have h_11 := h_8.2 c_9
      refine ev_aload_n (x := 27) (pc := 36) d_ga_countLack_36 rfl ?_
      refine ev_aload_n (x := 0) (pc := 37) d_ga_countLack_37 rfl ?_
      refine ev_getR (pc := 38) d_ga_countLack_38 f_ga_35 (ly_at hX 0 rfl) gg_11 rfl (ly_rf hX 0 5 rfl) ?_
      refine ev_iload_n (x := x2) (pc := 41) d_ga_countLack_41 rfl ?_
      obtain ⟨hv_15, r_12, hq_14, hb_13, h_16⟩ := h_11
      refine ev_ald4 (pc := 42) d_ga_countLack_42 (ly_at hX 16 rfl) hv_15 hq_14 ?_
      refine ev_getJ (v := (gI X r_12 0)) (pc := 43) d_ga_countLack_43 f_ga_240 hb_13 gg_3 rfl rfl ?_
      refine ev_dup2 (pc := 46) d_ga_countLack_46 rfl rfl ?_
      refine ev_ialdJ (v := (gI X 27 (Int32.toNatClampNeg (gI X r_12 0)))) (pc := 47) d_ga_countLack_47 (ly_at hX 27 rfl) h_16.1 rfl ?_
      refine ev_aload_n (x := 0) (pc := 48) d_ga_countLack_48 rfl ?_
      refine ev_getR (pc := 49) d_ga_countLack_49 f_ga_35 (ly_at hX 0 rfl) gg_11 rfl (ly_rf hX 0 5 rfl) ?_
      refine ev_iload_n (x := x2) (pc := 52) d_ga_countLack_52 rfl ?_
      obtain ⟨hv_20, r_17, hq_19, hb_18, h_21⟩ := h_16.2
      refine ev_ald4 (pc := 53) d_ga_countLack_53 (ly_at hX 16 rfl) hv_20 hq_19 ?_
      refine ev_getJ (v := (gI X r_17 1)) (pc := 54) d_ga_countLack_54 f_ga_243 hb_18 gg_3 rfl rfl ?_
      refine ev_iadd (pc := 57) d_ga_countLack_57 ?_
      refine ev_iast (pc := 58) d_ga_countLack_58 (ly_at hX 27 rfl) h_16.1 ?_
      refine ev_iinc (v := (x2 + 1)) (L2 := [(0, .ref 0), (1, .ref 27), (2, .int (x2 + 1))]) (pc := 59) d_ga_countLack_59 rfl (by rw [kc_i_1]) rfl (Nat.le_of_ble_eq_true rfl) rfl ?_
      refine ev_goto (pc := 62) (tgt := 15) d_ga_countLack_62 (by decide) ?_
      exact h_21
theorem b_ga_countLack_67 {E : gp_E} {S : gp_S} {X : gp_H} {Q : Option Value → gp_H → Prop} {x2 : Int32} (hX : Lay S X)  (hh : (((gI X 1 9) ≤ x2 → Q none X) ∧ (¬ (gI X 1 9) ≤ x2 → (vp_in x2 5 ∧ (((gI X 11 (Int32.toNatClampNeg x2)) = 0 → Ev E m_ga_countLack 67 [(0, .ref 0), (1, .ref 27), (2, .int (x2 + 1))] [] X (0, 0) Q) ∧ (¬ (gI X 11 (Int32.toNatClampNeg x2)) = 0 → (vp_in (gI X 8 (Int32.toNatClampNeg x2)) 12 ∧ Ev E m_ga_countLack 67 [(0, .ref 0), (1, .ref 27), (2, .int (x2 + 1))] [] (gp_sI X 27 (Int32.toNatClampNeg (gI X 8 (Int32.toNatClampNeg x2))) ((gI X 27 (Int32.toNatClampNeg (gI X 8 (Int32.toNatClampNeg x2)))) - (gI X 9 (Int32.toNatClampNeg x2)))) (0, 0) Q))))))) : Ev E m_ga_countLack 67 [(0, .ref 0), (1, .ref 27), (2, .int x2)] [] X (0, 0) Q := by
  refine ev_iload_n (x := x2) (pc := 67) d_ga_countLack_67 rfl ?_
  refine ev_aload_n (x := 0) (pc := 68) d_ga_countLack_68 rfl ?_
  refine ev_getR (pc := 69) d_ga_countLack_69 f_ga_10 (ly_at hX 0 rfl) gg_11 rfl (ly_rf hX 0 0 rfl) ?_
  refine ev_getJ (v := (gI X 1 9)) (pc := 72) d_ga_countLack_72 f_ga_132 (ly_at hX 1 rfl) gg_5 rfl rfl ?_
  refine ev_icmp_ge (pc := 75) (tgt := 119) d_ga_countLack_75 (by decide) (fun c_1 => ?_) (fun c_1 => ?_)
  · have h_2 := hh.1 c_1
    exact ev_ret (pc := 119) ⟨Nat.le_of_ble_eq_true rfl, Nat.le_of_ble_eq_true rfl⟩ d_ga_countLack_119 rfl h_2
  · have h_3 := hh.2 c_1
    refine ev_aload_n (x := 0) (pc := 78) d_ga_countLack_78 rfl ?_
    refine ev_getR (pc := 79) d_ga_countLack_79 f_ga_10 (ly_at hX 0 rfl) gg_11 rfl (ly_rf hX 0 0 rfl) ?_
    refine ev_getR (pc := 82) d_ga_countLack_82 f_ga_142 (ly_at hX 1 rfl) gg_5 rfl (ly_rf hX 1 13 rfl) ?_
    refine ev_iload_n (x := x2) (pc := 85) d_ga_countLack_85 rfl ?_
    refine ev_zaldJ (v := (gI X 11 (Int32.toNatClampNeg x2))) (pc := 86) d_ga_countLack_86 (ly_at hX 11 rfl) h_3.1 rfl ?_
    refine ev_if_eq (pc := 87) (tgt := 113) d_ga_countLack_87 (by decide) (fun c_4 => ?_) (fun c_4 => ?_)
    · have h_5 := h_3.2.1 c_4
      refine ev_iinc (v := (x2 + 1)) (L2 := [(0, .ref 0), (1, .ref 27), (2, .int (x2 + 1))]) (pc := 113) d_ga_countLack_113 rfl (by rw [kc_i_1]) rfl (Nat.le_of_ble_eq_true rfl) rfl ?_
      refine ev_goto (pc := 116) (tgt := 67) d_ga_countLack_116 (by decide) ?_
      exact h_5
    · have h_6 := h_3.2.2 c_4
      refine ev_aload_n (x := 27) (pc := 90) d_ga_countLack_90 rfl ?_
      refine ev_aload_n (x := 0) (pc := 91) d_ga_countLack_91 rfl ?_
      refine ev_getR (pc := 92) d_ga_countLack_92 f_ga_10 (ly_at hX 0 rfl) gg_11 rfl (ly_rf hX 0 0 rfl) ?_
      refine ev_getR (pc := 95) d_ga_countLack_95 f_ga_145 (ly_at hX 1 rfl) gg_5 rfl (ly_rf hX 1 10 rfl) ?_
      refine ev_iload_n (x := x2) (pc := 98) d_ga_countLack_98 rfl ?_
      refine ev_ialdJ (v := (gI X 8 (Int32.toNatClampNeg x2))) (pc := 99) d_ga_countLack_99 (ly_at hX 8 rfl) h_3.1 rfl ?_
      refine ev_dup2 (pc := 100) d_ga_countLack_100 rfl rfl ?_
      refine ev_ialdJ (v := (gI X 27 (Int32.toNatClampNeg (gI X 8 (Int32.toNatClampNeg x2))))) (pc := 101) d_ga_countLack_101 (ly_at hX 27 rfl) h_6.1 rfl ?_
      refine ev_aload_n (x := 0) (pc := 102) d_ga_countLack_102 rfl ?_
      refine ev_getR (pc := 103) d_ga_countLack_103 f_ga_10 (ly_at hX 0 rfl) gg_11 rfl (ly_rf hX 0 0 rfl) ?_
      refine ev_getR (pc := 106) d_ga_countLack_106 f_ga_148 (ly_at hX 1 rfl) gg_5 rfl (ly_rf hX 1 11 rfl) ?_
      refine ev_iload_n (x := x2) (pc := 109) d_ga_countLack_109 rfl ?_
      refine ev_ialdJ (v := (gI X 9 (Int32.toNatClampNeg x2))) (pc := 110) d_ga_countLack_110 (ly_at hX 9 rfl) h_3.1 rfl ?_
      refine ev_isub (pc := 111) d_ga_countLack_111 ?_
      refine ev_iast (pc := 112) d_ga_countLack_112 (ly_at hX 27 rfl) h_6.1 ?_
      refine ev_iinc (v := (x2 + 1)) (L2 := [(0, .ref 0), (1, .ref 27), (2, .int (x2 + 1))]) (pc := 113) d_ga_countLack_113 rfl (by rw [kc_i_1]) rfl (Nat.le_of_ble_eq_true rfl) rfl ?_
      refine ev_goto (pc := 116) (tgt := 67) d_ga_countLack_116 (by decide) ?_
      exact h_6.2
theorem b_ga_best_0 {E : gp_E} {S : gp_S} {X : gp_H} {Q : Option Value → gp_H → Prop}  (hX : Lay S X)  (hh : (∃ Qz_1, Ev E m_ga_countLack 0 [(0, .ref 0)] [] X (0, 0) Qz_1 ∧ ∀ r X_4, Qz_1 r X_4 → (r = none ∧ Lay S X_4 ∧ (∃ Qz_9, Ev E m_se_findBestRow 0 [(0, .ref 23)] [] X_4 (0, 0) Qz_9 ∧ ∀ r X_12, Qz_9 r X_12 → ∃ v_17 : Int32, r = some (.int v_17) ∧ Lay S X_12 ∧ Q (some (.int v_17)) X_12)))) : Ev E m_ga_best 0 [(0, .ref 0)] [] X (0, 0) Q := by
  refine ev_aload_n (x := 0) (pc := 0) d_ga_best_0 rfl ?_
  obtain ⟨Qz_1, hc_2, hk_3⟩ := hh
  refine ev_callV (z := m_ga_countLack) (as := []) (rest := []) (pc := 1) d_ga_best_1 (ly_at hX 0 rfl) lt13_11 rfl l_ga_286 i_ga_countLack v_ga_countLack o_ga_countLack rfl rfl (Nat.le_of_ble_eq_true rfl) rfl (Nat.le_of_ble_eq_true rfl) ⟨Nat.le_of_ble_eq_true rfl, Nat.le_of_ble_eq_true rfl⟩ hc_2 (fun r_5 X_4 hq_6 => ?_)
  obtain ⟨rfl, hX_8, h_7⟩ := hk_3 _ _ hq_6
  show Ev E m_ga_best 4 [(0, .ref 0)] [] X_4 (0, 0) Q
  refine ev_aload_n (x := 0) (pc := 4) d_ga_best_4 rfl ?_
  refine ev_getR (pc := 5) d_ga_best_5 f_ga_62 (ly_at hX_8 0 rfl) gg_11 rfl (ly_rf hX_8 0 15 rfl) ?_
  obtain ⟨Qz_9, hc_10, hk_11⟩ := h_7
  refine ev_callV (z := m_se_findBestRow) (as := []) (rest := []) (pc := 8) d_ga_best_8 (ly_at hX_8 23 rfl) lt13_8 rfl l_ga_289 i_se_findBestRow v_se_findBestRow o_se_findBestRow rfl rfl (Nat.le_of_ble_eq_true rfl) rfl (Nat.le_of_ble_eq_true rfl) ⟨Nat.le_of_ble_eq_true rfl, Nat.le_of_ble_eq_true rfl⟩ hc_10 (fun r_13 X_12 hq_14 => ?_)
  obtain ⟨v_17, rfl, hX_16, h_15⟩ := hk_11 _ _ hq_14
  show Ev E m_ga_best 11 [(0, .ref 0)] [.int v_17] X_12 (0, 0) Q
  exact ev_iret (pc := 11) ⟨Nat.le_of_ble_eq_true rfl, Nat.le_of_ble_eq_true rfl⟩ d_ga_best_11 rfl (vp_nar_int _) h_15
theorem b_ga_bestAt_0 {E : gp_E} {S : gp_S} {X : gp_H} {Q : Option Value → gp_H → Prop} {x1 : Int32} (hX : Lay S X)  (hh : (((iw x1 0 ((gI X 23 6) - 1)) = true → (vp_in x1 7 ∧ Q (some (.int (gI X 26 (Int32.toNatClampNeg x1)))) X)) ∧ ((iw x1 0 ((gI X 23 6) - 1)) = false → Q (some (.int (-1))) X))) : Ev E m_ga_bestAt 0 [(0, .ref 0), (1, .int x1)] [] X (0, 0) Q := by
  refine ev_iload_n (x := x1) (pc := 0) d_ga_bestAt_0 rfl ?_
  refine ev_iconst (v := 0) (pc := 1) d_ga_bestAt_1 kc_i_0 ?_
  refine ev_aload_n (x := 0) (pc := 2) d_ga_bestAt_2 rfl ?_
  refine ev_getR (pc := 3) d_ga_bestAt_3 f_ga_62 (ly_at hX 0 rfl) gg_11 rfl (ly_rf hX 0 15 rfl) ?_
  refine ev_getJ (v := (gI X 23 6)) (pc := 6) d_ga_bestAt_6 f_ga_292 (ly_at hX 23 rfl) gg_8 rfl rfl ?_
  refine ev_iconst (v := 1) (pc := 9) d_ga_bestAt_9 kc_i_1 ?_
  refine ev_isub (pc := 10) d_ga_bestAt_10 ?_
  refine ev_callS (z := m_ga_isWithin) (as := [.int x1, .int 0, .int ((gI X 23 6) - 1)]) (rest := []) (pc := 11) d_ga_bestAt_11 l_ga_128 i_ga_isWithin o_ga_isWithin rfl rfl (Nat.le_of_ble_eq_true rfl) rfl (Nat.le_of_ble_eq_true rfl) ⟨Nat.le_of_ble_eq_true rfl, Nat.le_of_ble_eq_true rfl⟩ (s_ga_isWithin hX x1 0 ((gI X 23 6) - 1)) (fun r X1 hq => ?_)
  obtain ⟨rfl, rfl⟩ := hq
  show Ev E m_ga_bestAt 14 [(0, .ref 0), (1, .int x1)] [.int (bz (iw x1 0 ((gI X 23 6) - 1)))] X (0, 0) Q
  refine ev_ifz_ne (pc := 14) (tgt := 19) d_ga_bestAt_14 (by decide) (fun c_1 => ?_) (fun c_1 => ?_)
  · have h_2 := hh.1 c_1
    refine ev_aload_n (x := 0) (pc := 19) d_ga_bestAt_19 rfl ?_
    refine ev_getR (pc := 20) d_ga_bestAt_20 f_ga_62 (ly_at hX 0 rfl) gg_11 rfl (ly_rf hX 0 15 rfl) ?_
    refine ev_getR (pc := 23) d_ga_bestAt_23 f_ga_295 (ly_at hX 23 rfl) gg_8 rfl (ly_rf hX 23 7 rfl) ?_
    refine ev_iload_n (x := x1) (pc := 26) d_ga_bestAt_26 rfl ?_
    refine ev_ialdJ (v := (gI X 26 (Int32.toNatClampNeg x1))) (pc := 27) d_ga_bestAt_27 (ly_at hX 26 rfl) h_2.1 rfl ?_
    exact ev_iret (pc := 28) ⟨Nat.le_of_ble_eq_true rfl, Nat.le_of_ble_eq_true rfl⟩ d_ga_bestAt_28 rfl (vp_nar_int _) h_2.2
  · have h_3 := hh.2 c_1
    refine ev_iconst (v := (-1)) (pc := 17) d_ga_bestAt_17 kc_i_m1 ?_
    exact ev_iret (pc := 18) ⟨Nat.le_of_ble_eq_true rfl, Nat.le_of_ble_eq_true rfl⟩ d_ga_bestAt_18 rfl (vp_nar_int _) h_3
theorem b_ga_plan_0 {E : gp_E} {S : gp_S} {X : gp_H} {Q : Option Value → gp_H → Prop} {x1 : Int32} (hX : Lay S X)  (hh : (((iw x1 0 ((gI X 23 1) - 1)) = true → (((gb (gI X 23 3) x1) = true → Q (some (.int (-3))) X) ∧ ((gb (gI X 23 3) x1) = false → (∃ Qz_7, Ev E m_se_isPlanned 0 [(0, .ref 23), (1, .int x1)] [] X (0, 0) Qz_7 ∧ ∀ r X_10, Qz_7 r X_10 → ∃ v_15 : Int32, r = some (.int v_15) ∧ Lay S X_10 ∧ ((v_15 = 0 → (∃ Qz_19, Ev E m_se_addToPlan 0 [(0, .ref 23), (1, .int x1)] [] X_10 (0, 0) Qz_19 ∧ ∀ r X_22, Qz_19 r X_22 → ∃ v_27 : Int32, r = some (.int v_27) ∧ Lay S X_22 ∧ Q (some (.int v_27)) X_22)) ∧ (¬ v_15 = 0 → Q (some (.int (-3))) X_10)))))) ∧ ((iw x1 0 ((gI X 23 1) - 1)) = false → Q (some (.int (-1))) X))) : Ev E m_ga_plan 0 [(0, .ref 0), (1, .int x1)] [] X (0, 0) Q := by
  refine ev_aload_n (x := 0) (pc := 0) d_ga_plan_0 rfl ?_
  refine ev_getR (pc := 1) d_ga_plan_1 f_ga_62 (ly_at hX 0 rfl) gg_11 rfl (ly_rf hX 0 15 rfl) ?_
  refine ev_iload_n (x := x1) (pc := 4) d_ga_plan_4 rfl ?_
  refine ev_callV (z := m_se_has) (as := [.int x1]) (rest := []) (pc := 5) d_ga_plan_5 (ly_at hX 23 rfl) lt13_8 rfl l_ga_232 i_se_has v_se_has o_se_has rfl rfl (Nat.le_of_ble_eq_true rfl) rfl (Nat.le_of_ble_eq_true rfl) ⟨Nat.le_of_ble_eq_true rfl, Nat.le_of_ble_eq_true rfl⟩ (s_se_has hX x1 ) (fun r X1 hq => ?_)
  obtain ⟨rfl, rfl⟩ := hq
  show Ev E m_ga_plan 8 [(0, .ref 0), (1, .int x1)] [.int (bz (iw x1 0 ((gI X 23 1) - 1)))] X (0, 0) Q
  refine ev_ifz_ne (pc := 8) (tgt := 13) d_ga_plan_8 (by decide) (fun c_1 => ?_) (fun c_1 => ?_)
  · have h_2 := hh.1 c_1
    refine ev_aload_n (x := 0) (pc := 13) d_ga_plan_13 rfl ?_
    refine ev_getR (pc := 14) d_ga_plan_14 f_ga_62 (ly_at hX 0 rfl) gg_11 rfl (ly_rf hX 0 15 rfl) ?_
    refine ev_iload_n (x := x1) (pc := 17) d_ga_plan_17 rfl ?_
    refine ev_callV (z := m_se_isChanged) (as := [.int x1]) (rest := []) (pc := 18) d_ga_plan_18 (ly_at hX 23 rfl) lt13_8 rfl l_ga_298 i_se_isChanged v_se_isChanged o_se_isChanged rfl rfl (Nat.le_of_ble_eq_true rfl) rfl (Nat.le_of_ble_eq_true rfl) ⟨Nat.le_of_ble_eq_true rfl, Nat.le_of_ble_eq_true rfl⟩ (s_se_isChanged hX x1 ) (fun r X1 hq => ?_)
    obtain ⟨rfl, rfl⟩ := hq
    show Ev E m_ga_plan 21 [(0, .ref 0), (1, .int x1)] [.int (bz (gb (gI X 23 3) x1))] X (0, 0) Q
    refine ev_ifz_ne (pc := 21) (tgt := 35) d_ga_plan_21 (by decide) (fun c_4 => ?_) (fun c_4 => ?_)
    · have h_5 := h_2.1 c_4
      refine ev_bipush (v := (-3)) (pc := 35) d_ga_plan_35 kc_b_m3 ?_
      exact ev_iret (pc := 37) ⟨Nat.le_of_ble_eq_true rfl, Nat.le_of_ble_eq_true rfl⟩ d_ga_plan_37 rfl (vp_nar_int _) h_5
    · have h_6 := h_2.2 c_4
      refine ev_aload_n (x := 0) (pc := 24) d_ga_plan_24 rfl ?_
      refine ev_getR (pc := 25) d_ga_plan_25 f_ga_62 (ly_at hX 0 rfl) gg_11 rfl (ly_rf hX 0 15 rfl) ?_
      refine ev_iload_n (x := x1) (pc := 28) d_ga_plan_28 rfl ?_
      obtain ⟨Qz_7, hc_8, hk_9⟩ := h_6
      refine ev_callV (z := m_se_isPlanned) (as := [.int x1]) (rest := []) (pc := 29) d_ga_plan_29 (ly_at hX 23 rfl) lt13_8 rfl l_ga_301 i_se_isPlanned v_se_isPlanned o_se_isPlanned rfl rfl (Nat.le_of_ble_eq_true rfl) rfl (Nat.le_of_ble_eq_true rfl) ⟨Nat.le_of_ble_eq_true rfl, Nat.le_of_ble_eq_true rfl⟩ hc_8 (fun r_11 X_10 hq_12 => ?_)
      obtain ⟨v_15, rfl, hX_14, h_13⟩ := hk_9 _ _ hq_12
      show Ev E m_ga_plan 32 [(0, .ref 0), (1, .int x1)] [.int v_15] X_10 (0, 0) Q
      refine ev_if_eq (pc := 32) (tgt := 38) d_ga_plan_32 (by decide) (fun c_16 => ?_) (fun c_16 => ?_)
      · have h_17 := h_13.1 c_16
        refine ev_aload_n (x := 0) (pc := 38) d_ga_plan_38 rfl ?_
        refine ev_getR (pc := 39) d_ga_plan_39 f_ga_62 (ly_at hX_14 0 rfl) gg_11 rfl (ly_rf hX_14 0 15 rfl) ?_
        refine ev_iload_n (x := x1) (pc := 42) d_ga_plan_42 rfl ?_
        obtain ⟨Qz_19, hc_20, hk_21⟩ := h_17
        refine ev_callV (z := m_se_addToPlan) (as := [.int x1]) (rest := []) (pc := 43) d_ga_plan_43 (ly_at hX_14 23 rfl) lt13_8 rfl l_ga_304 i_se_addToPlan v_se_addToPlan o_se_addToPlan rfl rfl (Nat.le_of_ble_eq_true rfl) rfl (Nat.le_of_ble_eq_true rfl) ⟨Nat.le_of_ble_eq_true rfl, Nat.le_of_ble_eq_true rfl⟩ hc_20 (fun r_23 X_22 hq_24 => ?_)
        obtain ⟨v_27, rfl, hX_26, h_25⟩ := hk_21 _ _ hq_24
        show Ev E m_ga_plan 46 [(0, .ref 0), (1, .int x1)] [.int v_27] X_22 (0, 0) Q
        exact ev_iret (pc := 46) ⟨Nat.le_of_ble_eq_true rfl, Nat.le_of_ble_eq_true rfl⟩ d_ga_plan_46 rfl (vp_nar_int _) h_25
      · have h_18 := h_13.2 c_16
        refine ev_bipush (v := (-3)) (pc := 35) d_ga_plan_35 kc_b_m3 ?_
        exact ev_iret (pc := 37) ⟨Nat.le_of_ble_eq_true rfl, Nat.le_of_ble_eq_true rfl⟩ d_ga_plan_37 rfl (vp_nar_int _) h_18
  · have h_3 := hh.2 c_1
    refine ev_iconst (v := (-1)) (pc := 11) d_ga_plan_11 kc_i_m1 ?_
    exact ev_iret (pc := 12) ⟨Nat.le_of_ble_eq_true rfl, Nat.le_of_ble_eq_true rfl⟩ d_ga_plan_12 rfl (vp_nar_int _) h_3
theorem b_ga_unplan_0 {E : gp_E} {S : gp_S} {X : gp_H} {Q : Option Value → gp_H → Prop}  (hX : Lay S X)  (hh : Q (some (.int (gI X 23 4))) (gp_sI X 23 4 0)) : Ev E m_ga_unplan 0 [(0, .ref 0)] [] X (0, 0) Q := by
  refine ev_aload_n (x := 0) (pc := 0) d_ga_unplan_0 rfl ?_
  refine ev_getR (pc := 1) d_ga_unplan_1 f_ga_62 (ly_at hX 0 rfl) gg_11 rfl (ly_rf hX 0 15 rfl) ?_
  refine ev_getJ (v := (gI X 23 4)) (pc := 4) d_ga_unplan_4 f_ga_307 (ly_at hX 23 rfl) gg_8 rfl rfl ?_
  refine ev_istore_n (L2 := [(0, .ref 0), (1, .int (gI X 23 4))]) (pc := 7) d_ga_unplan_7 rfl (Nat.le_of_ble_eq_true rfl) rfl ?_
  refine ev_aload_n (x := 0) (pc := 8) d_ga_unplan_8 rfl ?_
  refine ev_getR (pc := 9) d_ga_unplan_9 f_ga_62 (ly_at hX 0 rfl) gg_11 rfl (ly_rf hX 0 15 rfl) ?_
  refine ev_iconst (v := 0) (pc := 12) d_ga_unplan_12 kc_i_0 ?_
  refine ev_putI (pc := 13) d_ga_unplan_13 f_ga_307 (ly_at hX 23 rfl) gg_8 rfl (Or.inl rfl) (vp_nar_int _) rfl ?_
  refine ev_iload_n (x := (gI X 23 4)) (pc := 16) d_ga_unplan_16 rfl ?_
  exact ev_iret (pc := 17) ⟨Nat.le_of_ble_eq_true rfl, Nat.le_of_ble_eq_true rfl⟩ d_ga_unplan_17 rfl (vp_nar_int _) hh
theorem b_ga_shortOf_0 {E : gp_E} {S : gp_S} {X : gp_H} {Q : Option Value → gp_H → Prop} {x1 : Int32} {x2 : Int32} (hX : Lay S X)  (hh : (((iw x1 0 4) = false → Q (some (.int (-5))) X) ∧ ((iw x1 0 4) = true → (((ifl x2) = true → Ev E m_ga_shortOf 22 [(0, .ref 0), (1, .int x1), (2, .int x2), (3, .int 0), (4, .int 0)] [] X (0, 0) Q) ∧ ((ifl x2) = false → Q (some (.int (-5))) X))))) : Ev E m_ga_shortOf 0 [(0, .ref 0), (1, .int x1), (2, .int x2)] [] X (0, 0) Q := by
  refine ev_iload_n (x := x1) (pc := 0) d_ga_shortOf_0 rfl ?_
  refine ev_callS (z := m_ga_isJet) (as := [.int x1]) (rest := []) (pc := 1) d_ga_shortOf_1 l_ga_184 i_ga_isJet o_ga_isJet rfl rfl (Nat.le_of_ble_eq_true rfl) rfl (Nat.le_of_ble_eq_true rfl) ⟨Nat.le_of_ble_eq_true rfl, Nat.le_of_ble_eq_true rfl⟩ (s_ga_isJet hX x1) (fun r X1 hq => ?_)
  obtain ⟨rfl, rfl⟩ := hq
  show Ev E m_ga_shortOf 4 [(0, .ref 0), (1, .int x1), (2, .int x2)] [.int (bz (iw x1 0 4))] X (0, 0) Q
  refine ev_ifz_eq (pc := 4) (tgt := 14) d_ga_shortOf_4 (by decide) (fun c_1 => ?_) (fun c_1 => ?_)
  · have h_2 := hh.1 c_1
    refine ev_bipush (v := (-5)) (pc := 14) d_ga_shortOf_14 kc_b_m5 ?_
    exact ev_iret (pc := 16) ⟨Nat.le_of_ble_eq_true rfl, Nat.le_of_ble_eq_true rfl⟩ d_ga_shortOf_16 rfl (vp_nar_int _) h_2
  · have h_3 := hh.2 c_1
    refine ev_iload_n (x := x2) (pc := 7) d_ga_shortOf_7 rfl ?_
    refine ev_callS (z := m_ga_isFlag) (as := [.int x2]) (rest := []) (pc := 8) d_ga_shortOf_8 l_ga_95 i_ga_isFlag o_ga_isFlag rfl rfl (Nat.le_of_ble_eq_true rfl) rfl (Nat.le_of_ble_eq_true rfl) ⟨Nat.le_of_ble_eq_true rfl, Nat.le_of_ble_eq_true rfl⟩ (s_ga_isFlag hX x2) (fun r X1 hq => ?_)
    obtain ⟨rfl, rfl⟩ := hq
    show Ev E m_ga_shortOf 11 [(0, .ref 0), (1, .int x1), (2, .int x2)] [.int (bz (ifl x2))] X (0, 0) Q
    refine ev_ifz_ne (pc := 11) (tgt := 17) d_ga_shortOf_11 (by decide) (fun c_4 => ?_) (fun c_4 => ?_)
    · have h_5 := h_3.1 c_4
      refine ev_iconst (v := 0) (pc := 17) d_ga_shortOf_17 kc_i_0 ?_
      refine ev_istore_n (L2 := [(0, .ref 0), (1, .int x1), (2, .int x2), (3, .int 0)]) (pc := 18) d_ga_shortOf_18 rfl (Nat.le_of_ble_eq_true rfl) rfl ?_
      refine ev_iconst (v := 0) (pc := 19) d_ga_shortOf_19 kc_i_0 ?_
      refine ev_istore (L2 := [(0, .ref 0), (1, .int x1), (2, .int x2), (3, .int 0), (4, .int 0)]) (pc := 20) d_ga_shortOf_20 rfl (Nat.le_of_ble_eq_true rfl) rfl ?_
      exact h_5
    · have h_6 := h_3.2 c_4
      refine ev_bipush (v := (-5)) (pc := 14) d_ga_shortOf_14 kc_b_m5 ?_
      exact ev_iret (pc := 16) ⟨Nat.le_of_ble_eq_true rfl, Nat.le_of_ble_eq_true rfl⟩ d_ga_shortOf_16 rfl (vp_nar_int _) h_6
theorem b_ga_shortOf_22 {E : gp_E} {S : gp_S} {X : gp_H} {Q : Option Value → gp_H → Prop} {x1 : Int32} {x2 : Int32} {x3 : Int32} {x4 : Int32} (hX : Lay S X)  (hh : (((gI X 23 4) ≤ x4 → Q (some (.int (-1))) X) ∧ (¬ (gI X 23 4) ≤ x4 → (vp_in x4 7 ∧ (vp_in (gI X 25 (Int32.toNatClampNeg x4)) 7 ∧ ((¬ x2 = 1 → Ev E m_ga_shortOf 69 [(0, .ref 0), (1, .int x1), (2, .int x2), (3, .int x3), (4, .int x4)] [.int 0, .int (gI X 0 9), .int x1, .int (gI X 24 (Int32.toNatClampNeg (gI X 25 (Int32.toNatClampNeg x4)))), .ref 0, .int x3] X (0, 0) Q) ∧ (x2 = 1 → Ev E m_ga_shortOf 69 [(0, .ref 0), (1, .int x1), (2, .int x2), (3, .int x3), (4, .int x4)] [.int 1, .int (gI X 0 9), .int x1, .int (gI X 24 (Int32.toNatClampNeg (gI X 25 (Int32.toNatClampNeg x4)))), .ref 0, .int x3] X (0, 0) Q))))))) : Ev E m_ga_shortOf 22 [(0, .ref 0), (1, .int x1), (2, .int x2), (3, .int x3), (4, .int x4)] [] X (0, 0) Q := by
  refine ev_iload (x := x4) (pc := 22) d_ga_shortOf_22 rfl ?_
  refine ev_aload_n (x := 0) (pc := 24) d_ga_shortOf_24 rfl ?_
  refine ev_getR (pc := 25) d_ga_shortOf_25 f_ga_62 (ly_at hX 0 rfl) gg_11 rfl (ly_rf hX 0 15 rfl) ?_
  refine ev_getJ (v := (gI X 23 4)) (pc := 28) d_ga_shortOf_28 f_ga_307 (ly_at hX 23 rfl) gg_8 rfl rfl ?_
  refine ev_icmp_ge (pc := 31) (tgt := 111) d_ga_shortOf_31 (by decide) (fun c_1 => ?_) (fun c_1 => ?_)
  · have h_2 := hh.1 c_1
    refine ev_iconst (v := (-1)) (pc := 111) d_ga_shortOf_111 kc_i_m1 ?_
    exact ev_iret (pc := 112) ⟨Nat.le_of_ble_eq_true rfl, Nat.le_of_ble_eq_true rfl⟩ d_ga_shortOf_112 rfl (vp_nar_int _) h_2
  · have h_3 := hh.2 c_1
    refine ev_iload_n (x := x3) (pc := 34) d_ga_shortOf_34 rfl ?_
    refine ev_aload_n (x := 0) (pc := 35) d_ga_shortOf_35 rfl ?_
    refine ev_aload_n (x := 0) (pc := 36) d_ga_shortOf_36 rfl ?_
    refine ev_getR (pc := 37) d_ga_shortOf_37 f_ga_62 (ly_at hX 0 rfl) gg_11 rfl (ly_rf hX 0 15 rfl) ?_
    refine ev_getR (pc := 40) d_ga_shortOf_40 f_ga_233 (ly_at hX 23 rfl) gg_8 rfl (ly_rf hX 23 2 rfl) ?_
    refine ev_aload_n (x := 0) (pc := 43) d_ga_shortOf_43 rfl ?_
    refine ev_getR (pc := 44) d_ga_shortOf_44 f_ga_62 (ly_at hX 0 rfl) gg_11 rfl (ly_rf hX 0 15 rfl) ?_
    refine ev_getR (pc := 47) d_ga_shortOf_47 f_ga_310 (ly_at hX 23 rfl) gg_8 rfl (ly_rf hX 23 5 rfl) ?_
    refine ev_iload (x := x4) (pc := 50) d_ga_shortOf_50 rfl ?_
    refine ev_ialdJ (v := (gI X 25 (Int32.toNatClampNeg x4))) (pc := 52) d_ga_shortOf_52 (ly_at hX 25 rfl) h_3.1 rfl ?_
    refine ev_ialdJ (v := (gI X 24 (Int32.toNatClampNeg (gI X 25 (Int32.toNatClampNeg x4))))) (pc := 53) d_ga_shortOf_53 (ly_at hX 24 rfl) h_3.2.1 rfl ?_
    refine ev_iload_n (x := x1) (pc := 54) d_ga_shortOf_54 rfl ?_
    refine ev_aload_n (x := 0) (pc := 55) d_ga_shortOf_55 rfl ?_
    refine ev_getJ (v := (gI X 0 9)) (pc := 56) d_ga_shortOf_56 f_ga_313 (ly_at hX 0 rfl) gg_11 rfl rfl ?_
    refine ev_iload_n (x := x2) (pc := 59) d_ga_shortOf_59 rfl ?_
    refine ev_iconst (v := 1) (pc := 60) d_ga_shortOf_60 kc_i_1 ?_
    refine ev_icmp_ne (pc := 61) (tgt := 68) d_ga_shortOf_61 (by decide) (fun c_4 => ?_) (fun c_4 => ?_)
    · have h_5 := h_3.2.2.1 c_4
      refine ev_iconst (v := 0) (pc := 68) d_ga_shortOf_68 kc_i_0 ?_
      exact h_5
    · have h_6 := h_3.2.2.2 c_4
      refine ev_iconst (v := 1) (pc := 64) d_ga_shortOf_64 kc_i_1 ?_
      refine ev_goto (pc := 65) (tgt := 69) d_ga_shortOf_65 (by decide) ?_
      exact h_6
theorem b_ga_shortOf_69 {E : gp_E} {S : gp_S} {X : gp_H} {Q : Option Value → gp_H → Prop} {x1 : Int32} {x2 : Int32} {x3 : Int32} {x4 : Int32} {t0 : Int32} {t1 : Int32} {t2 : Int32} {t3 : Int32} {t5 : Int32} (hX : Lay S X)  (hh : (∃ Qz_1, Ev E m_ga_needOf 0 [(0, .ref 0), (1, .int t3), (2, .int t2), (3, .int t1), (4, .int t0)] [] X (0, 0) Qz_1 ∧ ∀ r X_4, Qz_1 r X_4 → ∃ v_9 : Int32, r = some (.int v_9) ∧ Lay S X_4 ∧ (vp_in x1 5 ∧ (∃ Qz_10, Ev E m_ga_orderedTill 0 [(0, .ref 0), (1, .int x1), (2, .int ((gI X_4 0 16) + x4))] [] X_4 (0, 0) Qz_10 ∧ ∀ r X_13, Qz_10 r X_13 → ∃ v_18 : Int32, r = some (.int v_18) ∧ Lay S X_13 ∧ (((t5 + v_9) ≤ ((gI X_4 19 (Int32.toNatClampNeg x1)) + v_18) → Ev E m_ga_shortOf 22 [(0, .ref 0), (1, .int x1), (2, .int x2), (3, .int (t5 + v_9)), (4, .int (x4 + 1))] [] X_13 (0, 0) Q) ∧ (¬ (t5 + v_9) ≤ ((gI X_4 19 (Int32.toNatClampNeg x1)) + v_18) → Q (some (.int ((gI X_13 0 16) + x4))) X_13)))))) : Ev E m_ga_shortOf 69 [(0, .ref 0), (1, .int x1), (2, .int x2), (3, .int x3), (4, .int x4)] [.int t0, .int t1, .int t2, .int t3, .ref 0, .int t5] X (0, 0) Q := by
  obtain ⟨Qz_1, hc_2, hk_3⟩ := hh
  refine ev_callV (z := m_ga_needOf) (as := [.int t3, .int t2, .int t1, .int t0]) (rest := [.int t5]) (pc := 69) d_ga_shortOf_69 (ly_at hX 0 rfl) lt13_11 rfl l_ga_236 i_ga_needOf v_ga_needOf o_ga_needOf rfl rfl (Nat.le_of_ble_eq_true rfl) rfl (Nat.le_of_ble_eq_true rfl) ⟨Nat.le_of_ble_eq_true rfl, Nat.le_of_ble_eq_true rfl⟩ hc_2 (fun r_5 X_4 hq_6 => ?_)
  obtain ⟨v_9, rfl, hX_8, h_7⟩ := hk_3 _ _ hq_6
  show Ev E m_ga_shortOf 72 [(0, .ref 0), (1, .int x1), (2, .int x2), (3, .int x3), (4, .int x4)] [.int v_9, .int t5] X_4 (0, 0) Q
  refine ev_iadd (pc := 72) d_ga_shortOf_72 ?_
  refine ev_istore_n (L2 := [(0, .ref 0), (1, .int x1), (2, .int x2), (3, .int (t5 + v_9)), (4, .int x4)]) (pc := 73) d_ga_shortOf_73 rfl (Nat.le_of_ble_eq_true rfl) rfl ?_
  refine ev_aload_n (x := 0) (pc := 74) d_ga_shortOf_74 rfl ?_
  refine ev_getR (pc := 75) d_ga_shortOf_75 f_ga_45 (ly_at hX_8 0 rfl) gg_11 rfl (ly_rf hX_8 0 10 rfl) ?_
  refine ev_iload_n (x := x1) (pc := 78) d_ga_shortOf_78 rfl ?_
  refine ev_ialdJ (v := (gI X_4 19 (Int32.toNatClampNeg x1))) (pc := 79) d_ga_shortOf_79 (ly_at hX_8 19 rfl) h_7.1 rfl ?_
  refine ev_aload_n (x := 0) (pc := 80) d_ga_shortOf_80 rfl ?_
  refine ev_iload_n (x := x1) (pc := 81) d_ga_shortOf_81 rfl ?_
  refine ev_aload_n (x := 0) (pc := 82) d_ga_shortOf_82 rfl ?_
  refine ev_getJ (v := (gI X_4 0 16)) (pc := 83) d_ga_shortOf_83 f_ga_265 (ly_at hX_8 0 rfl) gg_11 rfl rfl ?_
  refine ev_iload (x := x4) (pc := 86) d_ga_shortOf_86 rfl ?_
  refine ev_iadd (pc := 88) d_ga_shortOf_88 ?_
  obtain ⟨Qz_10, hc_11, hk_12⟩ := h_7.2
  refine ev_callV (z := m_ga_orderedTill) (as := [.int x1, .int ((gI X_4 0 16) + x4)]) (rest := [.int (gI X_4 19 (Int32.toNatClampNeg x1))]) (pc := 89) d_ga_shortOf_89 (ly_at hX_8 0 rfl) lt13_11 rfl l_ga_316 i_ga_orderedTill v_ga_orderedTill o_ga_orderedTill rfl rfl (Nat.le_of_ble_eq_true rfl) rfl (Nat.le_of_ble_eq_true rfl) ⟨Nat.le_of_ble_eq_true rfl, Nat.le_of_ble_eq_true rfl⟩ hc_11 (fun r_14 X_13 hq_15 => ?_)
  obtain ⟨v_18, rfl, hX_17, h_16⟩ := hk_12 _ _ hq_15
  show Ev E m_ga_shortOf 92 [(0, .ref 0), (1, .int x1), (2, .int x2), (3, .int (t5 + v_9)), (4, .int x4)] [.int v_18, .int (gI X_4 19 (Int32.toNatClampNeg x1))] X_13 (0, 0) Q
  refine ev_iadd (pc := 92) d_ga_shortOf_92 ?_
  refine ev_iload_n (x := (t5 + v_9)) (pc := 93) d_ga_shortOf_93 rfl ?_
  refine ev_icmp_ge (pc := 94) (tgt := 105) d_ga_shortOf_94 (by decide) (fun c_19 => ?_) (fun c_19 => ?_)
  · have h_20 := h_16.1 c_19
    refine ev_iinc (v := (x4 + 1)) (L2 := [(0, .ref 0), (1, .int x1), (2, .int x2), (3, .int (t5 + v_9)), (4, .int (x4 + 1))]) (pc := 105) d_ga_shortOf_105 rfl (by rw [kc_i_1]) rfl (Nat.le_of_ble_eq_true rfl) rfl ?_
    refine ev_goto (pc := 108) (tgt := 22) d_ga_shortOf_108 (by decide) ?_
    exact h_20
  · have h_21 := h_16.2 c_19
    refine ev_aload_n (x := 0) (pc := 97) d_ga_shortOf_97 rfl ?_
    refine ev_getJ (v := (gI X_13 0 16)) (pc := 98) d_ga_shortOf_98 f_ga_265 (ly_at hX_17 0 rfl) gg_11 rfl rfl ?_
    refine ev_iload (x := x4) (pc := 101) d_ga_shortOf_101 rfl ?_
    refine ev_iadd (pc := 103) d_ga_shortOf_103 ?_
    exact ev_iret (pc := 104) ⟨Nat.le_of_ble_eq_true rfl, Nat.le_of_ble_eq_true rfl⟩ d_ga_shortOf_104 rfl (vp_nar_int _) h_21
theorem b_ga_orderedTill_0 {E : gp_E} {S : gp_S} {X : gp_H} {Q : Option Value → gp_H → Prop} {x1 : Int32} {x2 : Int32} (hX : Lay S X)  (hh : Ev E m_ga_orderedTill 5 [(0, .ref 0), (1, .int x1), (2, .int x2), (3, .int 0), (4, .int 0)] [] X (0, 0) Q) : Ev E m_ga_orderedTill 0 [(0, .ref 0), (1, .int x1), (2, .int x2)] [] X (0, 0) Q := by
  refine ev_iconst (v := 0) (pc := 0) d_ga_orderedTill_0 kc_i_0 ?_
  refine ev_istore_n (L2 := [(0, .ref 0), (1, .int x1), (2, .int x2), (3, .int 0)]) (pc := 1) d_ga_orderedTill_1 rfl (Nat.le_of_ble_eq_true rfl) rfl ?_
  refine ev_iconst (v := 0) (pc := 2) d_ga_orderedTill_2 kc_i_0 ?_
  refine ev_istore (L2 := [(0, .ref 0), (1, .int x1), (2, .int x2), (3, .int 0), (4, .int 0)]) (pc := 3) d_ga_orderedTill_3 rfl (Nat.le_of_ble_eq_true rfl) rfl ?_
  exact hh
theorem b_ga_orderedTill_5 {E : gp_E} {S : gp_S} {X : gp_H} {Q : Option Value → gp_H → Prop} {x1 : Int32} {x2 : Int32} {x3 : Int32} {x4 : Int32} (hX : Lay S X)  (hh : (((gI X 0 14) ≤ x4 → Q (some (.int x3)) X) ∧ (¬ (gI X 0 14) ≤ x4 → (vp_in x4 30 ∧ (((gI X 22 (Int32.toNatClampNeg x4)) ≤ (gI X 0 16) → Ev E m_ga_orderedTill 43 [(0, .ref 0), (1, .int x1), (2, .int x2), (3, .int x3), (4, .int x4)] [] X (0, 0) Q) ∧ (¬ (gI X 22 (Int32.toNatClampNeg x4)) ≤ (gI X 0 16) → ((x2 < (gI X 22 (Int32.toNatClampNeg x4)) → Ev E m_ga_orderedTill 43 [(0, .ref 0), (1, .int x1), (2, .int x2), (3, .int x3), (4, .int x4)] [] X (0, 0) Q) ∧ (¬ x2 < (gI X 22 (Int32.toNatClampNeg x4)) → Ev E m_ga_orderedTill 44 [(0, .ref 0), (1, .int x1), (2, .int x2), (3, .int x3), (4, .int x4)] [.int 1] X (0, 0) Q)))))))) : Ev E m_ga_orderedTill 5 [(0, .ref 0), (1, .int x1), (2, .int x2), (3, .int x3), (4, .int x4)] [] X (0, 0) Q := by
  refine ev_iload (x := x4) (pc := 5) d_ga_orderedTill_5 rfl ?_
  refine ev_aload_n (x := 0) (pc := 7) d_ga_orderedTill_7 rfl ?_
  refine ev_getJ (v := (gI X 0 14)) (pc := 8) d_ga_orderedTill_8 f_ga_268 (ly_at hX 0 rfl) gg_11 rfl rfl ?_
  refine ev_icmp_ge (pc := 11) (tgt := 78) d_ga_orderedTill_11 (by decide) (fun c_1 => ?_) (fun c_1 => ?_)
  · have h_2 := hh.1 c_1
    refine ev_iload_n (x := x3) (pc := 78) d_ga_orderedTill_78 rfl ?_
    exact ev_iret (pc := 79) ⟨Nat.le_of_ble_eq_true rfl, Nat.le_of_ble_eq_true rfl⟩ d_ga_orderedTill_79 rfl (vp_nar_int _) h_2
  · have h_3 := hh.2 c_1
    refine ev_aload_n (x := 0) (pc := 14) d_ga_orderedTill_14 rfl ?_
    refine ev_getR (pc := 15) d_ga_orderedTill_15 f_ga_54 (ly_at hX 0 rfl) gg_11 rfl (ly_rf hX 0 13 rfl) ?_
    refine ev_iload (x := x4) (pc := 18) d_ga_orderedTill_18 rfl ?_
    refine ev_ialdJ (v := (gI X 22 (Int32.toNatClampNeg x4))) (pc := 20) d_ga_orderedTill_20 (ly_at hX 22 rfl) h_3.1 rfl ?_
    refine ev_aload_n (x := 0) (pc := 21) d_ga_orderedTill_21 rfl ?_
    refine ev_getJ (v := (gI X 0 16)) (pc := 22) d_ga_orderedTill_22 f_ga_265 (ly_at hX 0 rfl) gg_11 rfl rfl ?_
    refine ev_icmp_le (pc := 25) (tgt := 43) d_ga_orderedTill_25 (by decide) (fun c_4 => ?_) (fun c_4 => ?_)
    · have h_5 := h_3.2.1 c_4
      exact h_5
    · have h_6 := h_3.2.2 c_4
      refine ev_aload_n (x := 0) (pc := 28) d_ga_orderedTill_28 rfl ?_
      refine ev_getR (pc := 29) d_ga_orderedTill_29 f_ga_54 (ly_at hX 0 rfl) gg_11 rfl (ly_rf hX 0 13 rfl) ?_
      refine ev_iload (x := x4) (pc := 32) d_ga_orderedTill_32 rfl ?_
      refine ev_ialdJ (v := (gI X 22 (Int32.toNatClampNeg x4))) (pc := 34) d_ga_orderedTill_34 (ly_at hX 22 rfl) h_3.1 rfl ?_
      refine ev_iload_n (x := x2) (pc := 35) d_ga_orderedTill_35 rfl ?_
      refine ev_icmp_gt (pc := 36) (tgt := 43) d_ga_orderedTill_36 (by decide) (fun c_7 => ?_) (fun c_7 => ?_)
      · have h_8 := h_6.1 c_7
        exact h_8
      · have h_9 := h_6.2 c_7
        refine ev_iconst (v := 1) (pc := 39) d_ga_orderedTill_39 kc_i_1 ?_
        refine ev_goto (pc := 40) (tgt := 44) d_ga_orderedTill_40 (by decide) ?_
        exact h_9
theorem b_ga_orderedTill_43 {E : gp_E} {S : gp_S} {X : gp_H} {Q : Option Value → gp_H → Prop} {x1 : Int32} {x2 : Int32} {x3 : Int32} {x4 : Int32} (hX : Lay S X)  (hh : Ev E m_ga_orderedTill 44 [(0, .ref 0), (1, .int x1), (2, .int x2), (3, .int x3), (4, .int x4)] [.int 0] X (0, 0) Q) : Ev E m_ga_orderedTill 43 [(0, .ref 0), (1, .int x1), (2, .int x2), (3, .int x3), (4, .int x4)] [] X (0, 0) Q := by
  refine ev_iconst (v := 0) (pc := 43) d_ga_orderedTill_43 kc_i_0 ?_
  exact hh
theorem b_ga_orderedTill_44 {E : gp_E} {S : gp_S} {X : gp_H} {Q : Option Value → gp_H → Prop} {x1 : Int32} {x2 : Int32} {x3 : Int32} {x4 : Int32} {t0 : Int32} (hX : Lay S X)  (hh : ((t0 = 0 → Ev E m_ga_orderedTill 5 [(0, .ref 0), (1, .int x1), (2, .int x2), (3, .int x3), (4, .int (x4 + 1))] [] X (0, 0) Q) ∧ (¬ t0 = 0 → (vp_in x4 30 ∧ ((¬ (gI X 20 (Int32.toNatClampNeg x4)) = x1 → Ev E m_ga_orderedTill 5 [(0, .ref 0), (1, .int x1), (2, .int x2), (3, .int x3), (4, .int (x4 + 1))] [] X (0, 0) Q) ∧ ((gI X 20 (Int32.toNatClampNeg x4)) = x1 → Ev E m_ga_orderedTill 5 [(0, .ref 0), (1, .int x1), (2, .int x2), (3, .int (x3 + (gI X 21 (Int32.toNatClampNeg x4)))), (4, .int (x4 + 1))] [] X (0, 0) Q)))))) : Ev E m_ga_orderedTill 44 [(0, .ref 0), (1, .int x1), (2, .int x2), (3, .int x3), (4, .int x4)] [.int t0] X (0, 0) Q := by
  refine ev_istore (L2 := [(0, .ref 0), (1, .int x1), (2, .int x2), (3, .int x3), (4, .int x4), (5, .int t0)]) (pc := 44) d_ga_orderedTill_44 rfl (Nat.le_of_ble_eq_true rfl) rfl ?_
  refine ev_iload (x := t0) (pc := 46) d_ga_orderedTill_46 rfl ?_
  refine ev_if_eq (pc := 48) (tgt := 72) d_ga_orderedTill_48 (by decide) (fun c_1 => ?_) (fun c_1 => ?_)
  · have h_2 := hh.1 c_1
    refine ev_iinc (v := (x4 + 1)) (L2 := [(0, .ref 0), (1, .int x1), (2, .int x2), (3, .int x3), (4, .int (x4 + 1)), (5, .int t0)]) (pc := 72) d_ga_orderedTill_72 rfl (by rw [kc_i_1]) rfl (Nat.le_of_ble_eq_true rfl) rfl ?_
    refine ev_goto (pc := 75) (tgt := 5) d_ga_orderedTill_75 (by decide) ?_
    exact ev_sub [(0, .ref 0), (1, .int x1), (2, .int x2), (3, .int x3), (4, .int (x4 + 1))] (List.forall_mem_cons.mpr ⟨rfl, (List.forall_mem_cons.mpr ⟨rfl, (List.forall_mem_cons.mpr ⟨rfl, (List.forall_mem_cons.mpr ⟨rfl, (List.forall_mem_cons.mpr ⟨rfl, (fun _ h => nomatch h)⟩)⟩)⟩)⟩)⟩) h_2
  · have h_3 := hh.2 c_1
    refine ev_aload_n (x := 0) (pc := 51) d_ga_orderedTill_51 rfl ?_
    refine ev_getR (pc := 52) d_ga_orderedTill_52 f_ga_48 (ly_at hX 0 rfl) gg_11 rfl (ly_rf hX 0 11 rfl) ?_
    refine ev_iload (x := x4) (pc := 55) d_ga_orderedTill_55 rfl ?_
    refine ev_ialdJ (v := (gI X 20 (Int32.toNatClampNeg x4))) (pc := 57) d_ga_orderedTill_57 (ly_at hX 20 rfl) h_3.1 rfl ?_
    refine ev_iload_n (x := x1) (pc := 58) d_ga_orderedTill_58 rfl ?_
    refine ev_icmp_ne (pc := 59) (tgt := 72) d_ga_orderedTill_59 (by decide) (fun c_4 => ?_) (fun c_4 => ?_)
    · have h_5 := h_3.2.1 c_4
      refine ev_iinc (v := (x4 + 1)) (L2 := [(0, .ref 0), (1, .int x1), (2, .int x2), (3, .int x3), (4, .int (x4 + 1)), (5, .int t0)]) (pc := 72) d_ga_orderedTill_72 rfl (by rw [kc_i_1]) rfl (Nat.le_of_ble_eq_true rfl) rfl ?_
      refine ev_goto (pc := 75) (tgt := 5) d_ga_orderedTill_75 (by decide) ?_
      exact ev_sub [(0, .ref 0), (1, .int x1), (2, .int x2), (3, .int x3), (4, .int (x4 + 1))] (List.forall_mem_cons.mpr ⟨rfl, (List.forall_mem_cons.mpr ⟨rfl, (List.forall_mem_cons.mpr ⟨rfl, (List.forall_mem_cons.mpr ⟨rfl, (List.forall_mem_cons.mpr ⟨rfl, (fun _ h => nomatch h)⟩)⟩)⟩)⟩)⟩) h_5
    · have h_6 := h_3.2.2 c_4
      refine ev_iload_n (x := x3) (pc := 62) d_ga_orderedTill_62 rfl ?_
      refine ev_aload_n (x := 0) (pc := 63) d_ga_orderedTill_63 rfl ?_
      refine ev_getR (pc := 64) d_ga_orderedTill_64 f_ga_51 (ly_at hX 0 rfl) gg_11 rfl (ly_rf hX 0 12 rfl) ?_
      refine ev_iload (x := x4) (pc := 67) d_ga_orderedTill_67 rfl ?_
      refine ev_ialdJ (v := (gI X 21 (Int32.toNatClampNeg x4))) (pc := 69) d_ga_orderedTill_69 (ly_at hX 21 rfl) h_3.1 rfl ?_
      refine ev_iadd (pc := 70) d_ga_orderedTill_70 ?_
      refine ev_istore_n (L2 := [(0, .ref 0), (1, .int x1), (2, .int x2), (3, .int (x3 + (gI X 21 (Int32.toNatClampNeg x4)))), (4, .int x4), (5, .int t0)]) (pc := 71) d_ga_orderedTill_71 rfl (Nat.le_of_ble_eq_true rfl) rfl ?_
      refine ev_iinc (v := (x4 + 1)) (L2 := [(0, .ref 0), (1, .int x1), (2, .int x2), (3, .int (x3 + (gI X 21 (Int32.toNatClampNeg x4)))), (4, .int (x4 + 1)), (5, .int t0)]) (pc := 72) d_ga_orderedTill_72 rfl (by rw [kc_i_1]) rfl (Nat.le_of_ble_eq_true rfl) rfl ?_
      refine ev_goto (pc := 75) (tgt := 5) d_ga_orderedTill_75 (by decide) ?_
      exact ev_sub [(0, .ref 0), (1, .int x1), (2, .int x2), (3, .int (x3 + (gI X 21 (Int32.toNatClampNeg x4)))), (4, .int (x4 + 1))] (List.forall_mem_cons.mpr ⟨rfl, (List.forall_mem_cons.mpr ⟨rfl, (List.forall_mem_cons.mpr ⟨rfl, (List.forall_mem_cons.mpr ⟨rfl, (List.forall_mem_cons.mpr ⟨rfl, (fun _ h => nomatch h)⟩)⟩)⟩)⟩)⟩) h_6
theorem b_ga_fitter_0 {E : gp_E} {S : gp_S} {X : gp_H} {Q : Option Value → gp_H → Prop} {x1 : Int32} {x2 : Int32} {x3 : Int32} (hX : Lay S X)  (hh : (((iw x3 0 ((gI X 1 0) - 1)) = true → (((iw x1 0 15) = false → Q (some (.int (-2))) X) ∧ ((iw x1 0 15) = true → (((iw x2 1 10) = true → (((gI X 31 0) < 8 → (∃ Qz_13, Ev E m_du_addFitter 0 [(0, .ref 31), (1, .int x1), (2, .int x2), (3, .int x3)] [] X (0, 0) Qz_13 ∧ ∀ r X_16, Qz_13 r X_16 → ∃ v_21 : Int32, r = some (.int v_21) ∧ Lay S X_16 ∧ Q (some (.int v_21)) X_16)) ∧ (¬ (gI X 31 0) < 8 → Q (some (.int (-4))) X))) ∧ ((iw x2 1 10) = false → Q (some (.int (-2))) X))))) ∧ ((iw x3 0 ((gI X 1 0) - 1)) = false → Q (some (.int (-1))) X))) : Ev E m_ga_fitter 0 [(0, .ref 0), (1, .int x1), (2, .int x2), (3, .int x3)] [] X (0, 0) Q := by
  refine ev_aload_n (x := 0) (pc := 0) d_ga_fitter_0 rfl ?_
  refine ev_getR (pc := 1) d_ga_fitter_1 f_ga_10 (ly_at hX 0 rfl) gg_11 rfl (ly_rf hX 0 0 rfl) ?_
  refine ev_iload_n (x := x3) (pc := 4) d_ga_fitter_4 rfl ?_
  refine ev_callV (z := m_ne_hasKnot) (as := [.int x3]) (rest := []) (pc := 5) d_ga_fitter_5 (ly_at hX 1 rfl) lt13_5 rfl l_ga_91 i_ne_hasKnot v_ne_hasKnot o_ne_hasKnot rfl rfl (Nat.le_of_ble_eq_true rfl) rfl (Nat.le_of_ble_eq_true rfl) ⟨Nat.le_of_ble_eq_true rfl, Nat.le_of_ble_eq_true rfl⟩ (s_ne_hasKnot hX x3 ) (fun r X1 hq => ?_)
  obtain ⟨rfl, rfl⟩ := hq
  show Ev E m_ga_fitter 8 [(0, .ref 0), (1, .int x1), (2, .int x2), (3, .int x3)] [.int (bz (iw x3 0 ((gI X 1 0) - 1)))] X (0, 0) Q
  refine ev_ifz_ne (pc := 8) (tgt := 13) d_ga_fitter_8 (by decide) (fun c_1 => ?_) (fun c_1 => ?_)
  · have h_2 := hh.1 c_1
    refine ev_iload_n (x := x1) (pc := 13) d_ga_fitter_13 rfl ?_
    refine ev_iconst (v := 0) (pc := 14) d_ga_fitter_14 kc_i_0 ?_
    refine ev_bipush (v := 15) (pc := 15) d_ga_fitter_15 kc_b_15 ?_
    refine ev_callS (z := m_ga_isWithin) (as := [.int x1, .int 0, .int 15]) (rest := []) (pc := 17) d_ga_fitter_17 l_ga_128 i_ga_isWithin o_ga_isWithin rfl rfl (Nat.le_of_ble_eq_true rfl) rfl (Nat.le_of_ble_eq_true rfl) ⟨Nat.le_of_ble_eq_true rfl, Nat.le_of_ble_eq_true rfl⟩ (s_ga_isWithin hX x1 0 15) (fun r X1 hq => ?_)
    obtain ⟨rfl, rfl⟩ := hq
    show Ev E m_ga_fitter 20 [(0, .ref 0), (1, .int x1), (2, .int x2), (3, .int x3)] [.int (bz (iw x1 0 15))] X (0, 0) Q
    refine ev_ifz_eq (pc := 20) (tgt := 33) d_ga_fitter_20 (by decide) (fun c_4 => ?_) (fun c_4 => ?_)
    · have h_5 := h_2.1 c_4
      refine ev_bipush (v := (-2)) (pc := 33) d_ga_fitter_33 kc_b_m2 ?_
      exact ev_iret (pc := 35) ⟨Nat.le_of_ble_eq_true rfl, Nat.le_of_ble_eq_true rfl⟩ d_ga_fitter_35 rfl (vp_nar_int _) h_5
    · have h_6 := h_2.2 c_4
      refine ev_iload_n (x := x2) (pc := 23) d_ga_fitter_23 rfl ?_
      refine ev_iconst (v := 1) (pc := 24) d_ga_fitter_24 kc_i_1 ?_
      refine ev_bipush (v := 10) (pc := 25) d_ga_fitter_25 kc_b_10 ?_
      refine ev_callS (z := m_ga_isWithin) (as := [.int x2, .int 1, .int 10]) (rest := []) (pc := 27) d_ga_fitter_27 l_ga_128 i_ga_isWithin o_ga_isWithin rfl rfl (Nat.le_of_ble_eq_true rfl) rfl (Nat.le_of_ble_eq_true rfl) ⟨Nat.le_of_ble_eq_true rfl, Nat.le_of_ble_eq_true rfl⟩ (s_ga_isWithin hX x2 1 10) (fun r X1 hq => ?_)
      obtain ⟨rfl, rfl⟩ := hq
      show Ev E m_ga_fitter 30 [(0, .ref 0), (1, .int x1), (2, .int x2), (3, .int x3)] [.int (bz (iw x2 1 10))] X (0, 0) Q
      refine ev_ifz_ne (pc := 30) (tgt := 36) d_ga_fitter_30 (by decide) (fun c_7 => ?_) (fun c_7 => ?_)
      · have h_8 := h_6.1 c_7
        refine ev_aload_n (x := 0) (pc := 36) d_ga_fitter_36 rfl ?_
        refine ev_getR (pc := 37) d_ga_fitter_37 f_ga_69 (ly_at hX 0 rfl) gg_11 rfl (ly_rf hX 0 17 rfl) ?_
        refine ev_getJ (v := (gI X 31 0)) (pc := 40) d_ga_fitter_40 f_ga_320 (ly_at hX 31 rfl) gg_0 rfl rfl ?_
        refine ev_bipush (v := 8) (pc := 43) d_ga_fitter_43 kc_b_8 ?_
        refine ev_icmp_lt (pc := 45) (tgt := 51) d_ga_fitter_45 (by decide) (fun c_10 => ?_) (fun c_10 => ?_)
        · have h_11 := h_8.1 c_10
          refine ev_aload_n (x := 0) (pc := 51) d_ga_fitter_51 rfl ?_
          refine ev_getR (pc := 52) d_ga_fitter_52 f_ga_69 (ly_at hX 0 rfl) gg_11 rfl (ly_rf hX 0 17 rfl) ?_
          refine ev_iload_n (x := x1) (pc := 55) d_ga_fitter_55 rfl ?_
          refine ev_iload_n (x := x2) (pc := 56) d_ga_fitter_56 rfl ?_
          refine ev_iload_n (x := x3) (pc := 57) d_ga_fitter_57 rfl ?_
          obtain ⟨Qz_13, hc_14, hk_15⟩ := h_11
          refine ev_callV (z := m_du_addFitter) (as := [.int x1, .int x2, .int x3]) (rest := []) (pc := 58) d_ga_fitter_58 (ly_at hX 31 rfl) lt13_0 rfl l_ga_323 i_du_addFitter v_du_addFitter o_du_addFitter rfl rfl (Nat.le_of_ble_eq_true rfl) rfl (Nat.le_of_ble_eq_true rfl) ⟨Nat.le_of_ble_eq_true rfl, Nat.le_of_ble_eq_true rfl⟩ hc_14 (fun r_17 X_16 hq_18 => ?_)
          obtain ⟨v_21, rfl, hX_20, h_19⟩ := hk_15 _ _ hq_18
          show Ev E m_ga_fitter 61 [(0, .ref 0), (1, .int x1), (2, .int x2), (3, .int x3)] [.int v_21] X_16 (0, 0) Q
          exact ev_iret (pc := 61) ⟨Nat.le_of_ble_eq_true rfl, Nat.le_of_ble_eq_true rfl⟩ d_ga_fitter_61 rfl (vp_nar_int _) h_19
        · have h_12 := h_8.2 c_10
          refine ev_bipush (v := (-4)) (pc := 48) d_ga_fitter_48 kc_b_m4 ?_
          exact ev_iret (pc := 50) ⟨Nat.le_of_ble_eq_true rfl, Nat.le_of_ble_eq_true rfl⟩ d_ga_fitter_50 rfl (vp_nar_int _) h_12
      · have h_9 := h_6.2 c_7
        refine ev_bipush (v := (-2)) (pc := 33) d_ga_fitter_33 kc_b_m2 ?_
        exact ev_iret (pc := 35) ⟨Nat.le_of_ble_eq_true rfl, Nat.le_of_ble_eq_true rfl⟩ d_ga_fitter_35 rfl (vp_nar_int _) h_9
  · have h_3 := hh.2 c_1
    refine ev_iconst (v := (-1)) (pc := 11) d_ga_fitter_11 kc_i_m1 ?_
    exact ev_iret (pc := 12) ⟨Nat.le_of_ble_eq_true rfl, Nat.le_of_ble_eq_true rfl⟩ d_ga_fitter_12 rfl (vp_nar_int _) h_3
theorem b_ga_change_0 {E : gp_E} {S : gp_S} {X : gp_H} {Q : Option Value → gp_H → Prop} {x1 : Int32} (hX : Lay S X)  (hh : (((iw x1 0 ((gI X 23 1) - 1)) = true → ((200 ≤ (gI X 0 16) → Q (some (.int (-3))) X) ∧ (¬ 200 ≤ (gI X 0 16) → (∃ Qz_7, Ev E m_ga_whatHinders 0 [(0, .ref 0), (1, .int x1)] [] X (0, 0) Qz_7 ∧ ∀ r X_10, Qz_7 r X_10 → ∃ v_15 : Int32, r = some (.int v_15) ∧ Lay S X_10 ∧ ((v_15 = 0 → (vp_in x1 7 ∧ (∃ Qz_19, Ev E m_se_setChanged 0 [(0, .ref 23), (1, .int x1)] [] X_10 (0, 0) Qz_19 ∧ ∀ r X_22, Qz_19 r X_22 → (r = none ∧ Lay S X_22 ∧ (∃ Qz_27, Ev E m_ne_closeWorksAt 0 [(0, .ref 1), (1, .int (gI X_10 24 (Int32.toNatClampNeg x1)))] [] X_22 (0, 0) Qz_27 ∧ ∀ r X_30, Qz_27 r X_30 → (r = none ∧ Lay S X_30 ∧ (∃ Qz_35, Ev E m_se_changedKnots 0 [(0, .ref 23)] [] X_30 (0, 0) Qz_35 ∧ ∀ r X_38, Qz_35 r X_38 → ∃ v_43 : Int32, r = some (.int v_43) ∧ Lay S X_38 ∧ (∃ Qz_44, Ev E m_ne_partFromRest 0 [(0, .ref 1), (1, .int v_43)] [] X_38 (0, 0) Qz_44 ∧ ∀ r X_47, Qz_44 r X_47 → (r = none ∧ Lay S X_47 ∧ (∃ Qz_52, Ev E m_ga_fitHomes 0 [(0, .ref 0), (1, .int (gI X_10 24 (Int32.toNatClampNeg x1)))] [] X_47 (0, 0) Qz_52 ∧ ∀ r X_55, Qz_52 r X_55 → ∃ v_60 : Int32, r = some (.int v_60) ∧ Lay S X_55 ∧ (∃ Qz_61, Ev E m_ga_shutOldHomes 0 [(0, .ref 0), (1, .int (gI X_10 24 (Int32.toNatClampNeg x1)))] [] X_55 (0, 0) Qz_61 ∧ ∀ r X_64, Qz_61 r X_64 → (r = none ∧ Lay S X_64 ∧ (∃ Qz_69, Ev E m_ga_endWeek 0 [(0, .ref 0)] [] X_64 (0, 0) Qz_69 ∧ ∀ r X_72, Qz_69 r X_72 → (r = none ∧ Lay S X_72 ∧ Q (some (.int v_60)) X_72)))))))))))))) ∧ (¬ v_15 = 0 → Q (some (.int (-3))) X_10)))))) ∧ ((iw x1 0 ((gI X 23 1) - 1)) = false → Q (some (.int (-1))) X))) : Ev E m_ga_change 0 [(0, .ref 0), (1, .int x1)] [] X (0, 0) Q := by
  refine ev_aload_n (x := 0) (pc := 0) d_ga_change_0 rfl ?_
  refine ev_getR (pc := 1) d_ga_change_1 f_ga_62 (ly_at hX 0 rfl) gg_11 rfl (ly_rf hX 0 15 rfl) ?_
  refine ev_iload_n (x := x1) (pc := 4) d_ga_change_4 rfl ?_
  refine ev_callV (z := m_se_has) (as := [.int x1]) (rest := []) (pc := 5) d_ga_change_5 (ly_at hX 23 rfl) lt13_8 rfl l_ga_232 i_se_has v_se_has o_se_has rfl rfl (Nat.le_of_ble_eq_true rfl) rfl (Nat.le_of_ble_eq_true rfl) ⟨Nat.le_of_ble_eq_true rfl, Nat.le_of_ble_eq_true rfl⟩ (s_se_has hX x1 ) (fun r X1 hq => ?_)
  obtain ⟨rfl, rfl⟩ := hq
  show Ev E m_ga_change 8 [(0, .ref 0), (1, .int x1)] [.int (bz (iw x1 0 ((gI X 23 1) - 1)))] X (0, 0) Q
  refine ev_ifz_ne (pc := 8) (tgt := 13) d_ga_change_8 (by decide) (fun c_1 => ?_) (fun c_1 => ?_)
  · have h_2 := hh.1 c_1
    refine ev_aload_n (x := 0) (pc := 13) d_ga_change_13 rfl ?_
    refine ev_getJ (v := (gI X 0 16)) (pc := 14) d_ga_change_14 f_ga_265 (ly_at hX 0 rfl) gg_11 rfl rfl ?_
    refine ev_sipush (v := 200) (pc := 17) d_ga_change_17 kc_s_200 ?_
    refine ev_icmp_ge (pc := 20) (tgt := 31) d_ga_change_20 (by decide) (fun c_4 => ?_) (fun c_4 => ?_)
    · have h_5 := h_2.1 c_4
      refine ev_bipush (v := (-3)) (pc := 31) d_ga_change_31 kc_b_m3 ?_
      exact ev_iret (pc := 33) ⟨Nat.le_of_ble_eq_true rfl, Nat.le_of_ble_eq_true rfl⟩ d_ga_change_33 rfl (vp_nar_int _) h_5
    · have h_6 := h_2.2 c_4
      refine ev_aload_n (x := 0) (pc := 23) d_ga_change_23 rfl ?_
      refine ev_iload_n (x := x1) (pc := 24) d_ga_change_24 rfl ?_
      obtain ⟨Qz_7, hc_8, hk_9⟩ := h_6
      refine ev_callV (z := m_ga_whatHinders) (as := [.int x1]) (rest := []) (pc := 25) d_ga_change_25 (ly_at hX 0 rfl) lt13_11 rfl l_ga_283 i_ga_whatHinders v_ga_whatHinders o_ga_whatHinders rfl rfl (Nat.le_of_ble_eq_true rfl) rfl (Nat.le_of_ble_eq_true rfl) ⟨Nat.le_of_ble_eq_true rfl, Nat.le_of_ble_eq_true rfl⟩ hc_8 (fun r_11 X_10 hq_12 => ?_)
      obtain ⟨v_15, rfl, hX_14, h_13⟩ := hk_9 _ _ hq_12
      show Ev E m_ga_change 28 [(0, .ref 0), (1, .int x1)] [.int v_15] X_10 (0, 0) Q
      refine ev_if_eq (pc := 28) (tgt := 34) d_ga_change_28 (by decide) (fun c_16 => ?_) (fun c_16 => ?_)
      · have h_17 := h_13.1 c_16
        refine ev_aload_n (x := 0) (pc := 34) d_ga_change_34 rfl ?_
        refine ev_getR (pc := 35) d_ga_change_35 f_ga_62 (ly_at hX_14 0 rfl) gg_11 rfl (ly_rf hX_14 0 15 rfl) ?_
        refine ev_getR (pc := 38) d_ga_change_38 f_ga_233 (ly_at hX_14 23 rfl) gg_8 rfl (ly_rf hX_14 23 2 rfl) ?_
        refine ev_iload_n (x := x1) (pc := 41) d_ga_change_41 rfl ?_
        refine ev_ialdJ (v := (gI X_10 24 (Int32.toNatClampNeg x1))) (pc := 42) d_ga_change_42 (ly_at hX_14 24 rfl) h_17.1 rfl ?_
        refine ev_istore_n (L2 := [(0, .ref 0), (1, .int x1), (2, .int (gI X_10 24 (Int32.toNatClampNeg x1)))]) (pc := 43) d_ga_change_43 rfl (Nat.le_of_ble_eq_true rfl) rfl ?_
        refine ev_aload_n (x := 0) (pc := 44) d_ga_change_44 rfl ?_
        refine ev_getR (pc := 45) d_ga_change_45 f_ga_62 (ly_at hX_14 0 rfl) gg_11 rfl (ly_rf hX_14 0 15 rfl) ?_
        refine ev_iload_n (x := x1) (pc := 48) d_ga_change_48 rfl ?_
        obtain ⟨Qz_19, hc_20, hk_21⟩ := h_17.2
        refine ev_callV (z := m_se_setChanged) (as := [.int x1]) (rest := []) (pc := 49) d_ga_change_49 (ly_at hX_14 23 rfl) lt13_8 rfl l_ga_326 i_se_setChanged v_se_setChanged o_se_setChanged rfl rfl (Nat.le_of_ble_eq_true rfl) rfl (Nat.le_of_ble_eq_true rfl) ⟨Nat.le_of_ble_eq_true rfl, Nat.le_of_ble_eq_true rfl⟩ hc_20 (fun r_23 X_22 hq_24 => ?_)
        obtain ⟨rfl, hX_26, h_25⟩ := hk_21 _ _ hq_24
        show Ev E m_ga_change 52 [(0, .ref 0), (1, .int x1), (2, .int (gI X_10 24 (Int32.toNatClampNeg x1)))] [] X_22 (0, 0) Q
        refine ev_aload_n (x := 0) (pc := 52) d_ga_change_52 rfl ?_
        refine ev_getR (pc := 53) d_ga_change_53 f_ga_10 (ly_at hX_26 0 rfl) gg_11 rfl (ly_rf hX_26 0 0 rfl) ?_
        refine ev_iload_n (x := (gI X_10 24 (Int32.toNatClampNeg x1))) (pc := 56) d_ga_change_56 rfl ?_
        obtain ⟨Qz_27, hc_28, hk_29⟩ := h_25
        refine ev_callV (z := m_ne_closeWorksAt) (as := [.int (gI X_10 24 (Int32.toNatClampNeg x1))]) (rest := []) (pc := 57) d_ga_change_57 (ly_at hX_26 1 rfl) lt13_5 rfl l_ga_330 i_ne_closeWorksAt v_ne_closeWorksAt o_ne_closeWorksAt rfl rfl (Nat.le_of_ble_eq_true rfl) rfl (Nat.le_of_ble_eq_true rfl) ⟨Nat.le_of_ble_eq_true rfl, Nat.le_of_ble_eq_true rfl⟩ hc_28 (fun r_31 X_30 hq_32 => ?_)
        obtain ⟨rfl, hX_34, h_33⟩ := hk_29 _ _ hq_32
        show Ev E m_ga_change 60 [(0, .ref 0), (1, .int x1), (2, .int (gI X_10 24 (Int32.toNatClampNeg x1)))] [] X_30 (0, 0) Q
        refine ev_aload_n (x := 0) (pc := 60) d_ga_change_60 rfl ?_
        refine ev_getR (pc := 61) d_ga_change_61 f_ga_10 (ly_at hX_34 0 rfl) gg_11 rfl (ly_rf hX_34 0 0 rfl) ?_
        refine ev_aload_n (x := 0) (pc := 64) d_ga_change_64 rfl ?_
        refine ev_getR (pc := 65) d_ga_change_65 f_ga_62 (ly_at hX_34 0 rfl) gg_11 rfl (ly_rf hX_34 0 15 rfl) ?_
        obtain ⟨Qz_35, hc_36, hk_37⟩ := h_33
        refine ev_callV (z := m_se_changedKnots) (as := []) (rest := [.ref 1]) (pc := 68) d_ga_change_68 (ly_at hX_34 23 rfl) lt13_8 rfl l_ga_333 i_se_changedKnots v_se_changedKnots o_se_changedKnots rfl rfl (Nat.le_of_ble_eq_true rfl) rfl (Nat.le_of_ble_eq_true rfl) ⟨Nat.le_of_ble_eq_true rfl, Nat.le_of_ble_eq_true rfl⟩ hc_36 (fun r_39 X_38 hq_40 => ?_)
        obtain ⟨v_43, rfl, hX_42, h_41⟩ := hk_37 _ _ hq_40
        show Ev E m_ga_change 71 [(0, .ref 0), (1, .int x1), (2, .int (gI X_10 24 (Int32.toNatClampNeg x1)))] [.int v_43, .ref 1] X_38 (0, 0) Q
        obtain ⟨Qz_44, hc_45, hk_46⟩ := h_41
        refine ev_callV (z := m_ne_partFromRest) (as := [.int v_43]) (rest := []) (pc := 71) d_ga_change_71 (ly_at hX_42 1 rfl) lt13_5 rfl l_ga_336 i_ne_partFromRest v_ne_partFromRest o_ne_partFromRest rfl rfl (Nat.le_of_ble_eq_true rfl) rfl (Nat.le_of_ble_eq_true rfl) ⟨Nat.le_of_ble_eq_true rfl, Nat.le_of_ble_eq_true rfl⟩ hc_45 (fun r_48 X_47 hq_49 => ?_)
        obtain ⟨rfl, hX_51, h_50⟩ := hk_46 _ _ hq_49
        show Ev E m_ga_change 74 [(0, .ref 0), (1, .int x1), (2, .int (gI X_10 24 (Int32.toNatClampNeg x1)))] [] X_47 (0, 0) Q
        refine ev_aload_n (x := 0) (pc := 74) d_ga_change_74 rfl ?_
        refine ev_iload_n (x := (gI X_10 24 (Int32.toNatClampNeg x1))) (pc := 75) d_ga_change_75 rfl ?_
        obtain ⟨Qz_52, hc_53, hk_54⟩ := h_50
        refine ev_callV (z := m_ga_fitHomes) (as := [.int (gI X_10 24 (Int32.toNatClampNeg x1))]) (rest := []) (pc := 76) d_ga_change_76 (ly_at hX_51 0 rfl) lt13_11 rfl l_ga_339 i_ga_fitHomes v_ga_fitHomes o_ga_fitHomes rfl rfl (Nat.le_of_ble_eq_true rfl) rfl (Nat.le_of_ble_eq_true rfl) ⟨Nat.le_of_ble_eq_true rfl, Nat.le_of_ble_eq_true rfl⟩ hc_53 (fun r_56 X_55 hq_57 => ?_)
        obtain ⟨v_60, rfl, hX_59, h_58⟩ := hk_54 _ _ hq_57
        show Ev E m_ga_change 79 [(0, .ref 0), (1, .int x1), (2, .int (gI X_10 24 (Int32.toNatClampNeg x1)))] [.int v_60] X_55 (0, 0) Q
        refine ev_istore_n (L2 := [(0, .ref 0), (1, .int x1), (2, .int (gI X_10 24 (Int32.toNatClampNeg x1))), (3, .int v_60)]) (pc := 79) d_ga_change_79 rfl (Nat.le_of_ble_eq_true rfl) rfl ?_
        refine ev_aload_n (x := 0) (pc := 80) d_ga_change_80 rfl ?_
        refine ev_iload_n (x := (gI X_10 24 (Int32.toNatClampNeg x1))) (pc := 81) d_ga_change_81 rfl ?_
        obtain ⟨Qz_61, hc_62, hk_63⟩ := h_58
        refine ev_callV (z := m_ga_shutOldHomes) (as := [.int (gI X_10 24 (Int32.toNatClampNeg x1))]) (rest := []) (pc := 82) d_ga_change_82 (ly_at hX_59 0 rfl) lt13_11 rfl l_ga_342 i_ga_shutOldHomes v_ga_shutOldHomes o_ga_shutOldHomes rfl rfl (Nat.le_of_ble_eq_true rfl) rfl (Nat.le_of_ble_eq_true rfl) ⟨Nat.le_of_ble_eq_true rfl, Nat.le_of_ble_eq_true rfl⟩ hc_62 (fun r_65 X_64 hq_66 => ?_)
        obtain ⟨rfl, hX_68, h_67⟩ := hk_63 _ _ hq_66
        show Ev E m_ga_change 85 [(0, .ref 0), (1, .int x1), (2, .int (gI X_10 24 (Int32.toNatClampNeg x1))), (3, .int v_60)] [] X_64 (0, 0) Q
        refine ev_aload_n (x := 0) (pc := 85) d_ga_change_85 rfl ?_
        obtain ⟨Qz_69, hc_70, hk_71⟩ := h_67
        refine ev_callV (z := m_ga_endWeek) (as := []) (rest := []) (pc := 86) d_ga_change_86 (ly_at hX_68 0 rfl) lt13_11 rfl l_ga_345 i_ga_endWeek v_ga_endWeek o_ga_endWeek rfl rfl (Nat.le_of_ble_eq_true rfl) rfl (Nat.le_of_ble_eq_true rfl) ⟨Nat.le_of_ble_eq_true rfl, Nat.le_of_ble_eq_true rfl⟩ hc_70 (fun r_73 X_72 hq_74 => ?_)
        obtain ⟨rfl, hX_76, h_75⟩ := hk_71 _ _ hq_74
        show Ev E m_ga_change 89 [(0, .ref 0), (1, .int x1), (2, .int (gI X_10 24 (Int32.toNatClampNeg x1))), (3, .int v_60)] [] X_72 (0, 0) Q
        refine ev_iload_n (x := v_60) (pc := 89) d_ga_change_89 rfl ?_
        exact ev_iret (pc := 90) ⟨Nat.le_of_ble_eq_true rfl, Nat.le_of_ble_eq_true rfl⟩ d_ga_change_90 rfl (vp_nar_int _) h_75
      · have h_18 := h_13.2 c_16
        refine ev_bipush (v := (-3)) (pc := 31) d_ga_change_31 kc_b_m3 ?_
        exact ev_iret (pc := 33) ⟨Nat.le_of_ble_eq_true rfl, Nat.le_of_ble_eq_true rfl⟩ d_ga_change_33 rfl (vp_nar_int _) h_18
  · have h_3 := hh.2 c_1
    refine ev_iconst (v := (-1)) (pc := 11) d_ga_change_11 kc_i_m1 ?_
    exact ev_iret (pc := 12) ⟨Nat.le_of_ble_eq_true rfl, Nat.le_of_ble_eq_true rfl⟩ d_ga_change_12 rfl (vp_nar_int _) h_3
theorem b_ga_fitHomes_0 {E : gp_E} {S : gp_S} {X : gp_H} {Q : Option Value → gp_H → Prop} {x1 : Int32} (hX : Lay S X)  (hh : Ev E m_ga_fitHomes 4 [(0, .ref 0), (1, .int x1), (2, .int 0), (3, .int 0)] [] X (0, 0) Q) : Ev E m_ga_fitHomes 0 [(0, .ref 0), (1, .int x1)] [] X (0, 0) Q := by
  refine ev_iconst (v := 0) (pc := 0) d_ga_fitHomes_0 kc_i_0 ?_
  refine ev_istore_n (L2 := [(0, .ref 0), (1, .int x1), (2, .int 0)]) (pc := 1) d_ga_fitHomes_1 rfl (Nat.le_of_ble_eq_true rfl) rfl ?_
  refine ev_iconst (v := 0) (pc := 2) d_ga_fitHomes_2 kc_i_0 ?_
  refine ev_istore_n (L2 := [(0, .ref 0), (1, .int x1), (2, .int 0), (3, .int 0)]) (pc := 3) d_ga_fitHomes_3 rfl (Nat.le_of_ble_eq_true rfl) rfl ?_
  exact hh
theorem b_ga_fitHomes_4 {E : gp_E} {S : gp_S} {X : gp_H} {Q : Option Value → gp_H → Prop} {x1 : Int32} {x2 : Int32} {x3 : Int32} (hX : Lay S X)  (hh : ((5 ≤ x3 → Q (some (.int x2)) X) ∧ (¬ 5 ≤ x3 → Ev E m_ga_fitHomes 12 [(0, .ref 0), (1, .int x1), (2, .int x2), (3, .int x3), (4, .int 0)] [] X (0, 0) Q))) : Ev E m_ga_fitHomes 4 [(0, .ref 0), (1, .int x1), (2, .int x2), (3, .int x3)] [] X (0, 0) Q := by
  refine ev_iload_n (x := x3) (pc := 4) d_ga_fitHomes_4 rfl ?_
  refine ev_iconst (v := 5) (pc := 5) d_ga_fitHomes_5 kc_i_5 ?_
  refine ev_icmp_ge (pc := 6) (tgt := 47) d_ga_fitHomes_6 (by decide) (fun c_1 => ?_) (fun c_1 => ?_)
  · have h_2 := hh.1 c_1
    refine ev_iload_n (x := x2) (pc := 47) d_ga_fitHomes_47 rfl ?_
    exact ev_iret (pc := 48) ⟨Nat.le_of_ble_eq_true rfl, Nat.le_of_ble_eq_true rfl⟩ d_ga_fitHomes_48 rfl (vp_nar_int _) h_2
  · have h_3 := hh.2 c_1
    refine ev_iconst (v := 0) (pc := 9) d_ga_fitHomes_9 kc_i_0 ?_
    refine ev_istore (L2 := [(0, .ref 0), (1, .int x1), (2, .int x2), (3, .int x3), (4, .int 0)]) (pc := 10) d_ga_fitHomes_10 rfl (Nat.le_of_ble_eq_true rfl) rfl ?_
    exact h_3
theorem b_ga_fitHomes_12 {E : gp_E} {S : gp_S} {X : gp_H} {Q : Option Value → gp_H → Prop} {x1 : Int32} {x2 : Int32} {x3 : Int32} {x4 : Int32} (hX : Lay S X)  (hh : (((gI X 31 0) ≤ x4 → Ev E m_ga_fitHomes 4 [(0, .ref 0), (1, .int x1), (2, .int x2), (3, .int (x3 + 1))] [] X (0, 0) Q) ∧ (¬ (gI X 31 0) ≤ x4 → (∃ Qz_4, Ev E m_ga_fitOnDay 0 [(0, .ref 0), (1, .int x1), (2, .int x3), (3, .int x4)] [] X (0, 0) Qz_4 ∧ ∀ r X_7, Qz_4 r X_7 → ∃ v_12 : Int32, r = some (.int v_12) ∧ Lay S X_7 ∧ Ev E m_ga_fitHomes 12 [(0, .ref 0), (1, .int x1), (2, .int (x2 + v_12)), (3, .int x3), (4, .int (x4 + 1))] [] X_7 (0, 0) Q)))) : Ev E m_ga_fitHomes 12 [(0, .ref 0), (1, .int x1), (2, .int x2), (3, .int x3), (4, .int x4)] [] X (0, 0) Q := by
  refine ev_iload (x := x4) (pc := 12) d_ga_fitHomes_12 rfl ?_
  refine ev_aload_n (x := 0) (pc := 14) d_ga_fitHomes_14 rfl ?_
  refine ev_getR (pc := 15) d_ga_fitHomes_15 f_ga_69 (ly_at hX 0 rfl) gg_11 rfl (ly_rf hX 0 17 rfl) ?_
  refine ev_getJ (v := (gI X 31 0)) (pc := 18) d_ga_fitHomes_18 f_ga_320 (ly_at hX 31 rfl) gg_0 rfl rfl ?_
  refine ev_icmp_ge (pc := 21) (tgt := 41) d_ga_fitHomes_21 (by decide) (fun c_1 => ?_) (fun c_1 => ?_)
  · have h_2 := hh.1 c_1
    refine ev_iinc (v := (x3 + 1)) (L2 := [(0, .ref 0), (1, .int x1), (2, .int x2), (3, .int (x3 + 1)), (4, .int x4)]) (pc := 41) d_ga_fitHomes_41 rfl (by rw [kc_i_1]) rfl (Nat.le_of_ble_eq_true rfl) rfl ?_
    refine ev_goto (pc := 44) (tgt := 4) d_ga_fitHomes_44 (by decide) ?_
    exact ev_sub [(0, .ref 0), (1, .int x1), (2, .int x2), (3, .int (x3 + 1))] (List.forall_mem_cons.mpr ⟨rfl, (List.forall_mem_cons.mpr ⟨rfl, (List.forall_mem_cons.mpr ⟨rfl, (List.forall_mem_cons.mpr ⟨rfl, (fun _ h => nomatch h)⟩)⟩)⟩)⟩) h_2
  · have h_3 := hh.2 c_1
    refine ev_iload_n (x := x2) (pc := 24) d_ga_fitHomes_24 rfl ?_
    refine ev_aload_n (x := 0) (pc := 25) d_ga_fitHomes_25 rfl ?_
    refine ev_iload_n (x := x1) (pc := 26) d_ga_fitHomes_26 rfl ?_
    refine ev_iload_n (x := x3) (pc := 27) d_ga_fitHomes_27 rfl ?_
    refine ev_iload (x := x4) (pc := 28) d_ga_fitHomes_28 rfl ?_
    obtain ⟨Qz_4, hc_5, hk_6⟩ := h_3
    refine ev_callV (z := m_ga_fitOnDay) (as := [.int x1, .int x3, .int x4]) (rest := [.int x2]) (pc := 30) d_ga_fitHomes_30 (ly_at hX 0 rfl) lt13_11 rfl l_ga_523 i_ga_fitOnDay v_ga_fitOnDay o_ga_fitOnDay rfl rfl (Nat.le_of_ble_eq_true rfl) rfl (Nat.le_of_ble_eq_true rfl) ⟨Nat.le_of_ble_eq_true rfl, Nat.le_of_ble_eq_true rfl⟩ hc_5 (fun r_8 X_7 hq_9 => ?_)
    obtain ⟨v_12, rfl, hX_11, h_10⟩ := hk_6 _ _ hq_9
    show Ev E m_ga_fitHomes 33 [(0, .ref 0), (1, .int x1), (2, .int x2), (3, .int x3), (4, .int x4)] [.int v_12, .int x2] X_7 (0, 0) Q
    refine ev_iadd (pc := 33) d_ga_fitHomes_33 ?_
    refine ev_istore_n (L2 := [(0, .ref 0), (1, .int x1), (2, .int (x2 + v_12)), (3, .int x3), (4, .int x4)]) (pc := 34) d_ga_fitHomes_34 rfl (Nat.le_of_ble_eq_true rfl) rfl ?_
    refine ev_iinc (v := (x4 + 1)) (L2 := [(0, .ref 0), (1, .int x1), (2, .int (x2 + v_12)), (3, .int x3), (4, .int (x4 + 1))]) (pc := 35) d_ga_fitHomes_35 rfl (by rw [kc_i_1]) rfl (Nat.le_of_ble_eq_true rfl) rfl ?_
    refine ev_goto (pc := 38) (tgt := 12) d_ga_fitHomes_38 (by decide) ?_
    exact h_10
theorem b_ga_fitOnDay_0 {E : gp_E} {S : gp_S} {X : gp_H} {Q : Option Value → gp_H → Prop} {x1 : Int32} {x2 : Int32} {x3 : Int32} (hX : Lay S X)  (hh : (vp_in x3 8 ∧ Ev E m_ga_fitOnDay 17 [(0, .ref 0), (1, .int x1), (2, .int x2), (3, .int x3), (4, .int (gI X 33 (Int32.toNatClampNeg x3))), (5, .int 0), (6, .int 0)] [] X (0, 0) Q)) : Ev E m_ga_fitOnDay 0 [(0, .ref 0), (1, .int x1), (2, .int x2), (3, .int x3)] [] X (0, 0) Q := by
  refine ev_aload_n (x := 0) (pc := 0) d_ga_fitOnDay_0 rfl ?_
  refine ev_getR (pc := 1) d_ga_fitOnDay_1 f_ga_69 (ly_at hX 0 rfl) gg_11 rfl (ly_rf hX 0 17 rfl) ?_
  refine ev_getR (pc := 4) d_ga_fitOnDay_4 f_ga_526 (ly_at hX 31 rfl) gg_0 rfl (ly_rf hX 31 2 rfl) ?_
  refine ev_iload_n (x := x3) (pc := 7) d_ga_fitOnDay_7 rfl ?_
  refine ev_ialdJ (v := (gI X 33 (Int32.toNatClampNeg x3))) (pc := 8) d_ga_fitOnDay_8 (ly_at hX 33 rfl) hh.1 rfl ?_
  refine ev_istore (L2 := [(0, .ref 0), (1, .int x1), (2, .int x2), (3, .int x3), (4, .int (gI X 33 (Int32.toNatClampNeg x3)))]) (pc := 9) d_ga_fitOnDay_9 rfl (Nat.le_of_ble_eq_true rfl) rfl ?_
  refine ev_iconst (v := 0) (pc := 11) d_ga_fitOnDay_11 kc_i_0 ?_
  refine ev_istore (L2 := [(0, .ref 0), (1, .int x1), (2, .int x2), (3, .int x3), (4, .int (gI X 33 (Int32.toNatClampNeg x3))), (5, .int 0)]) (pc := 12) d_ga_fitOnDay_12 rfl (Nat.le_of_ble_eq_true rfl) rfl ?_
  refine ev_iconst (v := 0) (pc := 14) d_ga_fitOnDay_14 kc_i_0 ?_
  refine ev_istore (L2 := [(0, .ref 0), (1, .int x1), (2, .int x2), (3, .int x3), (4, .int (gI X 33 (Int32.toNatClampNeg x3))), (5, .int 0), (6, .int 0)]) (pc := 15) d_ga_fitOnDay_15 rfl (Nat.le_of_ble_eq_true rfl) rfl ?_
  exact hh.2
theorem b_ga_fitOnDay_17 {E : gp_E} {S : gp_S} {X : gp_H} {Q : Option Value → gp_H → Prop} {x1 : Int32} {x2 : Int32} {x3 : Int32} {x4 : Int32} {x5 : Int32} {x6 : Int32} (hX : Lay S X)  (hh : (((gI X 0 6) ≤ x6 → Q (some (.int x5)) X) ∧ (¬ (gI X 0 6) ≤ x6 → (vp_in x6 40 ∧ ∃ r_4 : Nat, X.2.2.1 16 (Int32.toNatClampNeg x6) = some r_4 ∧ gp_at X r_4 (3, 0) ∧ ((¬ (gI X r_4 4) = 0 → Ev E m_ga_fitOnDay 17 [(0, .ref 0), (1, .int x1), (2, .int x2), (3, .int x3), (4, .int x4), (5, .int x5), (6, .int (x6 + 1))] [] X (0, 0) Q) ∧ ((gI X r_4 4) = 0 → (((gb x1 (gI X r_4 0)) = false → Ev E m_ga_fitOnDay 17 [(0, .ref 0), (1, .int x1), (2, .int x2), (3, .int x3), (4, .int x4), (5, .int x5), (6, .int (x6 + 1))] [] X (0, 0) Q) ∧ ((gb x1 (gI X r_4 0)) = true → (((gb (gI X r_4 2) x2) = true → (∃ r_18 k_19 : Nat, X.2.2.1 r_4 3 = some r_18 ∧ gp_at X r_18 (k_19, 0) ∧ (k_19 < 13 ∧ gp_gid k_19 = 7) ∧ (vp_in x3 8 ∧ (((gb (gI X 32 (Int32.toNatClampNeg x3)) (gI X r_18 5)) = true → (∃ r_27 k_28 : Nat, X.2.2.1 r_4 3 = some r_27 ∧ gp_at X r_27 (k_28, 0) ∧ (k_28 < 13 ∧ gp_gid k_28 = 7) ∧ ((x4 < (gI X r_27 4) → Ev E m_ga_fitOnDay 17 [(0, .ref 0), (1, .int x1), (2, .int x2), (3, .int x3), (4, .int x4), (5, .int x5), (6, .int (x6 + 1))] [] X (0, 0) Q) ∧ (¬ x4 < (gI X r_27 4) → (∃ r_36 k_37 : Nat, X.2.2.1 r_4 3 = some r_36 ∧ gp_at X r_36 (k_37, 0) ∧ (k_37 < 13 ∧ gp_gid k_37 = 7) ∧ (∃ Qz_42, Ev E m_ga_hasJetsFor 0 [(0, .ref 0), (1, .ref r_36)] [] X (0, 0) Qz_42 ∧ ∀ r X_45, Qz_42 r X_45 → ∃ v_51 : Int32, r = some (.int v_51) ∧ Lay S X_45 ∧ gp_at X_45 r_4 (3, 0) ∧ ((¬ v_51 = 0 → (∃ r_55 k_56 : Nat, X_45.2.2.1 r_4 3 = some r_55 ∧ gp_at X_45 r_55 (k_56, 0) ∧ (k_56 < 13 ∧ gp_gid k_56 = 7) ∧ (∃ Qz_61, Ev E m_ga_fit 0 [(0, .ref 0), (1, .ref r_4), (2, .int x3), (3, .int x2)] [] X_45 (0, 0) Qz_61 ∧ ∀ r X_64, Qz_61 r X_64 → (r = none ∧ Lay S X_64 ∧ gp_at X_64 r_4 (3, 0) ∧ Ev E m_ga_fitOnDay 17 [(0, .ref 0), (1, .int x1), (2, .int x2), (3, .int x3), (4, .int (x4 - (gI X_45 r_55 4))), (5, .int (x5 + 1)), (6, .int (x6 + 1))] [] X_64 (0, 0) Q)))) ∧ (v_51 = 0 → Ev E m_ga_fitOnDay 17 [(0, .ref 0), (1, .int x1), (2, .int x2), (3, .int x3), (4, .int x4), (5, .int x5), (6, .int (x6 + 1))] [] X_45 (0, 0) Q)))))))) ∧ ((gb (gI X 32 (Int32.toNatClampNeg x3)) (gI X r_18 5)) = false → Ev E m_ga_fitOnDay 17 [(0, .ref 0), (1, .int x1), (2, .int x2), (3, .int x3), (4, .int x4), (5, .int x5), (6, .int (x6 + 1))] [] X (0, 0) Q))))) ∧ ((gb (gI X r_4 2) x2) = false → Ev E m_ga_fitOnDay 17 [(0, .ref 0), (1, .int x1), (2, .int x2), (3, .int x3), (4, .int x4), (5, .int x5), (6, .int (x6 + 1))] [] X (0, 0) Q)))))))))) : Ev E m_ga_fitOnDay 17 [(0, .ref 0), (1, .int x1), (2, .int x2), (3, .int x3), (4, .int x4), (5, .int x5), (6, .int x6)] [] X (0, 0) Q := by
  refine ev_iload (x := x6) (pc := 17) d_ga_fitOnDay_17 rfl ?_
  refine ev_aload_n (x := 0) (pc := 19) d_ga_fitOnDay_19 rfl ?_
  refine ev_getJ (v := (gI X 0 6)) (pc := 20) d_ga_fitOnDay_20 f_ga_198 (ly_at hX 0 rfl) gg_11 rfl rfl ?_
  refine ev_icmp_ge (pc := 23) (tgt := 150) d_ga_fitOnDay_23 (by decide) (fun c_1 => ?_) (fun c_1 => ?_)
  · have h_2 := hh.1 c_1
    refine ev_iload (x := x5) (pc := 150) d_ga_fitOnDay_150 rfl ?_
    exact ev_iret (pc := 152) ⟨Nat.le_of_ble_eq_true rfl, Nat.le_of_ble_eq_true rfl⟩ d_ga_fitOnDay_152 rfl (vp_nar_int _) h_2
  · have h_3 := hh.2 c_1
    refine ev_aload_n (x := 0) (pc := 26) d_ga_fitOnDay_26 rfl ?_
    refine ev_getR (pc := 27) d_ga_fitOnDay_27 f_ga_35 (ly_at hX 0 rfl) gg_11 rfl (ly_rf hX 0 5 rfl) ?_
    refine ev_iload (x := x6) (pc := 30) d_ga_fitOnDay_30 rfl ?_
    obtain ⟨hv_7, r_4, hq_6, hb_5, h_8⟩ := h_3
    refine ev_ald4 (pc := 32) d_ga_fitOnDay_32 (ly_at hX 16 rfl) hv_7 hq_6 ?_
    refine ev_astore (L2 := [(0, .ref 0), (1, .int x1), (2, .int x2), (3, .int x3), (4, .int x4), (5, .int x5), (6, .int x6), (7, .ref r_4)]) (pc := 33) d_ga_fitOnDay_33 rfl (Nat.le_of_ble_eq_true rfl) rfl ?_
    refine ev_aload (x := r_4) (pc := 35) d_ga_fitOnDay_35 rfl ?_
    refine ev_getJ (v := (gI X r_4 4)) (pc := 37) d_ga_fitOnDay_37 f_ga_249 hb_5 gg_3 rfl rfl ?_
    refine ev_if_ne (pc := 40) (tgt := 144) d_ga_fitOnDay_40 (by decide) (fun c_9 => ?_) (fun c_9 => ?_)
    · have h_10 := h_8.1 c_9
      refine ev_iinc (v := (x6 + 1)) (L2 := [(0, .ref 0), (1, .int x1), (2, .int x2), (3, .int x3), (4, .int x4), (5, .int x5), (6, .int (x6 + 1)), (7, .ref r_4)]) (pc := 144) d_ga_fitOnDay_144 rfl (by rw [kc_i_1]) rfl (Nat.le_of_ble_eq_true rfl) rfl ?_
      refine ev_goto (pc := 147) (tgt := 17) d_ga_fitOnDay_147 (by decide) ?_
      exact ev_sub [(0, .ref 0), (1, .int x1), (2, .int x2), (3, .int x3), (4, .int x4), (5, .int x5), (6, .int (x6 + 1))] (List.forall_mem_cons.mpr ⟨rfl, (List.forall_mem_cons.mpr ⟨rfl, (List.forall_mem_cons.mpr ⟨rfl, (List.forall_mem_cons.mpr ⟨rfl, (List.forall_mem_cons.mpr ⟨rfl, (List.forall_mem_cons.mpr ⟨rfl, (List.forall_mem_cons.mpr ⟨rfl, (fun _ h => nomatch h)⟩)⟩)⟩)⟩)⟩)⟩)⟩) h_10
    · have h_11 := h_8.2 c_9
      refine ev_iload_n (x := x1) (pc := 43) d_ga_fitOnDay_43 rfl ?_
      refine ev_aload (x := r_4) (pc := 44) d_ga_fitOnDay_44 rfl ?_
      refine ev_getJ (v := (gI X r_4 0)) (pc := 46) d_ga_fitOnDay_46 f_ga_240 hb_5 gg_3 rfl rfl ?_
      refine ev_callS (z := m_ga_hasBit) (as := [.int x1, .int (gI X r_4 0)]) (rest := []) (pc := 49) d_ga_fitOnDay_49 l_ga_351 i_ga_hasBit o_ga_hasBit rfl rfl (Nat.le_of_ble_eq_true rfl) rfl (Nat.le_of_ble_eq_true rfl) ⟨Nat.le_of_ble_eq_true rfl, Nat.le_of_ble_eq_true rfl⟩ (s_ga_hasBit hX x1 (gI X r_4 0)) (fun r X1 hq => ?_)
      obtain ⟨rfl, rfl⟩ := hq
      show Ev E m_ga_fitOnDay 52 [(0, .ref 0), (1, .int x1), (2, .int x2), (3, .int x3), (4, .int x4), (5, .int x5), (6, .int x6), (7, .ref r_4)] [.int (bz (gb x1 (gI X r_4 0)))] X (0, 0) Q
      refine ev_ifz_eq (pc := 52) (tgt := 144) d_ga_fitOnDay_52 (by decide) (fun c_12 => ?_) (fun c_12 => ?_)
      · have h_13 := h_11.1 c_12
        refine ev_iinc (v := (x6 + 1)) (L2 := [(0, .ref 0), (1, .int x1), (2, .int x2), (3, .int x3), (4, .int x4), (5, .int x5), (6, .int (x6 + 1)), (7, .ref r_4)]) (pc := 144) d_ga_fitOnDay_144 rfl (by rw [kc_i_1]) rfl (Nat.le_of_ble_eq_true rfl) rfl ?_
        refine ev_goto (pc := 147) (tgt := 17) d_ga_fitOnDay_147 (by decide) ?_
        exact ev_sub [(0, .ref 0), (1, .int x1), (2, .int x2), (3, .int x3), (4, .int x4), (5, .int x5), (6, .int (x6 + 1))] (List.forall_mem_cons.mpr ⟨rfl, (List.forall_mem_cons.mpr ⟨rfl, (List.forall_mem_cons.mpr ⟨rfl, (List.forall_mem_cons.mpr ⟨rfl, (List.forall_mem_cons.mpr ⟨rfl, (List.forall_mem_cons.mpr ⟨rfl, (List.forall_mem_cons.mpr ⟨rfl, (fun _ h => nomatch h)⟩)⟩)⟩)⟩)⟩)⟩)⟩) h_13
      · have h_14 := h_11.2 c_12
        refine ev_aload (x := r_4) (pc := 55) d_ga_fitOnDay_55 rfl ?_
        refine ev_getJ (v := (gI X r_4 2)) (pc := 57) d_ga_fitOnDay_57 f_ga_246 hb_5 gg_3 rfl rfl ?_
        refine ev_iload_n (x := x2) (pc := 60) d_ga_fitOnDay_60 rfl ?_
        refine ev_callS (z := m_ga_hasBit) (as := [.int (gI X r_4 2), .int x2]) (rest := []) (pc := 61) d_ga_fitOnDay_61 l_ga_351 i_ga_hasBit o_ga_hasBit rfl rfl (Nat.le_of_ble_eq_true rfl) rfl (Nat.le_of_ble_eq_true rfl) ⟨Nat.le_of_ble_eq_true rfl, Nat.le_of_ble_eq_true rfl⟩ (s_ga_hasBit hX (gI X r_4 2) x2) (fun r X1 hq => ?_)
        obtain ⟨rfl, rfl⟩ := hq
        show Ev E m_ga_fitOnDay 64 [(0, .ref 0), (1, .int x1), (2, .int x2), (3, .int x3), (4, .int x4), (5, .int x5), (6, .int x6), (7, .ref r_4)] [.int (bz (gb (gI X r_4 2) x2))] X (0, 0) Q
        refine ev_ifz_ne (pc := 64) (tgt := 70) d_ga_fitOnDay_64 (by decide) (fun c_15 => ?_) (fun c_15 => ?_)
        · have h_16 := h_14.1 c_15
          refine ev_aload_n (x := 0) (pc := 70) d_ga_fitOnDay_70 rfl ?_
          refine ev_getR (pc := 71) d_ga_fitOnDay_71 f_ga_69 (ly_at hX 0 rfl) gg_11 rfl (ly_rf hX 0 17 rfl) ?_
          refine ev_iload_n (x := x3) (pc := 74) d_ga_fitOnDay_74 rfl ?_
          refine ev_aload (x := r_4) (pc := 75) d_ga_fitOnDay_75 rfl ?_
          obtain ⟨r_18, k_19, hq_21, hb_20, hg_22, h_23⟩ := h_16
          refine ev_getR (pc := 77) d_ga_fitOnDay_77 f_ga_354 hb_5 gg_3 rfl hq_21 ?_
          refine ev_getJ (v := (gI X r_18 5)) (pc := 80) d_ga_fitOnDay_80 f_ga_358 hb_20 hg_22 rfl rfl ?_
          refine ev_callV (z := m_du_isTrained) (as := [.int x3, .int (gI X r_18 5)]) (rest := []) (pc := 83) d_ga_fitOnDay_83 (ly_at hX 31 rfl) lt13_0 rfl l_ga_361 i_du_isTrained v_du_isTrained o_du_isTrained rfl rfl (Nat.le_of_ble_eq_true rfl) rfl (Nat.le_of_ble_eq_true rfl) ⟨Nat.le_of_ble_eq_true rfl, Nat.le_of_ble_eq_true rfl⟩ (s_du_isTrained hX x3 (gI X r_18 5)  h_23.1) (fun r X1 hq => ?_)
          obtain ⟨rfl, rfl⟩ := hq
          show Ev E m_ga_fitOnDay 86 [(0, .ref 0), (1, .int x1), (2, .int x2), (3, .int x3), (4, .int x4), (5, .int x5), (6, .int x6), (7, .ref r_4)] [.int (bz (gb (gI X 32 (Int32.toNatClampNeg x3)) (gI X r_18 5)))] X (0, 0) Q
          refine ev_ifz_ne (pc := 86) (tgt := 92) d_ga_fitOnDay_86 (by decide) (fun c_24 => ?_) (fun c_24 => ?_)
          · have h_25 := h_23.2.1 c_24
            refine ev_aload (x := r_4) (pc := 92) d_ga_fitOnDay_92 rfl ?_
            obtain ⟨r_27, k_28, hq_30, hb_29, hg_31, h_32⟩ := h_25
            refine ev_getR (pc := 94) d_ga_fitOnDay_94 f_ga_354 hb_5 gg_3 rfl hq_30 ?_
            refine ev_getJ (v := (gI X r_27 4)) (pc := 97) d_ga_fitOnDay_97 f_ga_529 hb_29 hg_31 rfl rfl ?_
            refine ev_iload (x := x4) (pc := 100) d_ga_fitOnDay_100 rfl ?_
            refine ev_icmp_gt (pc := 102) (tgt := 144) d_ga_fitOnDay_102 (by decide) (fun c_33 => ?_) (fun c_33 => ?_)
            · have h_34 := h_32.1 c_33
              refine ev_iinc (v := (x6 + 1)) (L2 := [(0, .ref 0), (1, .int x1), (2, .int x2), (3, .int x3), (4, .int x4), (5, .int x5), (6, .int (x6 + 1)), (7, .ref r_4)]) (pc := 144) d_ga_fitOnDay_144 rfl (by rw [kc_i_1]) rfl (Nat.le_of_ble_eq_true rfl) rfl ?_
              refine ev_goto (pc := 147) (tgt := 17) d_ga_fitOnDay_147 (by decide) ?_
              exact ev_sub [(0, .ref 0), (1, .int x1), (2, .int x2), (3, .int x3), (4, .int x4), (5, .int x5), (6, .int (x6 + 1))] (List.forall_mem_cons.mpr ⟨rfl, (List.forall_mem_cons.mpr ⟨rfl, (List.forall_mem_cons.mpr ⟨rfl, (List.forall_mem_cons.mpr ⟨rfl, (List.forall_mem_cons.mpr ⟨rfl, (List.forall_mem_cons.mpr ⟨rfl, (List.forall_mem_cons.mpr ⟨rfl, (fun _ h => nomatch h)⟩)⟩)⟩)⟩)⟩)⟩)⟩) h_34
            · have h_35 := h_32.2 c_33
              refine ev_aload_n (x := 0) (pc := 105) d_ga_fitOnDay_105 rfl ?_
              refine ev_aload (x := r_4) (pc := 106) d_ga_fitOnDay_106 rfl ?_
              obtain ⟨r_36, k_37, hq_39, hb_38, hg_40, h_41⟩ := h_35
              refine ev_getR (pc := 108) d_ga_fitOnDay_108 f_ga_354 hb_5 gg_3 rfl hq_39 ?_
              obtain ⟨Qz_42, hc_43, hk_44⟩ := h_41
              refine ev_callV (z := m_ga_hasJetsFor) (as := [.ref r_36]) (rest := []) (pc := 111) d_ga_fitOnDay_111 (ly_at hX 0 rfl) lt13_11 rfl l_ga_364 i_ga_hasJetsFor v_ga_hasJetsFor o_ga_hasJetsFor rfl rfl (Nat.le_of_ble_eq_true rfl) rfl (Nat.le_of_ble_eq_true rfl) ⟨Nat.le_of_ble_eq_true rfl, Nat.le_of_ble_eq_true rfl⟩ hc_43 (fun r_46 X_45 hq_47 => ?_)
              obtain ⟨v_51, rfl, hX_49, hm_50, h_48⟩ := hk_44 _ _ hq_47
              show Ev E m_ga_fitOnDay 114 [(0, .ref 0), (1, .int x1), (2, .int x2), (3, .int x3), (4, .int x4), (5, .int x5), (6, .int x6), (7, .ref r_4)] [.int v_51] X_45 (0, 0) Q
              refine ev_if_ne (pc := 114) (tgt := 120) d_ga_fitOnDay_114 (by decide) (fun c_52 => ?_) (fun c_52 => ?_)
              · have h_53 := h_48.1 c_52
                refine ev_iload (x := x4) (pc := 120) d_ga_fitOnDay_120 rfl ?_
                refine ev_aload (x := r_4) (pc := 122) d_ga_fitOnDay_122 rfl ?_
                obtain ⟨r_55, k_56, hq_58, hb_57, hg_59, h_60⟩ := h_53
                refine ev_getR (pc := 124) d_ga_fitOnDay_124 f_ga_354 hm_50 gg_3 rfl hq_58 ?_
                refine ev_getJ (v := (gI X_45 r_55 4)) (pc := 127) d_ga_fitOnDay_127 f_ga_529 hb_57 hg_59 rfl rfl ?_
                refine ev_isub (pc := 130) d_ga_fitOnDay_130 ?_
                refine ev_istore (L2 := [(0, .ref 0), (1, .int x1), (2, .int x2), (3, .int x3), (4, .int (x4 - (gI X_45 r_55 4))), (5, .int x5), (6, .int x6), (7, .ref r_4)]) (pc := 131) d_ga_fitOnDay_131 rfl (Nat.le_of_ble_eq_true rfl) rfl ?_
                refine ev_aload_n (x := 0) (pc := 133) d_ga_fitOnDay_133 rfl ?_
                refine ev_aload (x := r_4) (pc := 134) d_ga_fitOnDay_134 rfl ?_
                refine ev_iload_n (x := x3) (pc := 136) d_ga_fitOnDay_136 rfl ?_
                refine ev_iload_n (x := x2) (pc := 137) d_ga_fitOnDay_137 rfl ?_
                obtain ⟨Qz_61, hc_62, hk_63⟩ := h_60
                refine ev_callV (z := m_ga_fit) (as := [.ref r_4, .int x3, .int x2]) (rest := []) (pc := 138) d_ga_fitOnDay_138 (ly_at hX_49 0 rfl) lt13_11 rfl l_ga_368 i_ga_fit v_ga_fit o_ga_fit rfl rfl (Nat.le_of_ble_eq_true rfl) rfl (Nat.le_of_ble_eq_true rfl) ⟨Nat.le_of_ble_eq_true rfl, Nat.le_of_ble_eq_true rfl⟩ hc_62 (fun r_65 X_64 hq_66 => ?_)
                obtain ⟨rfl, hX_68, hm_69, h_67⟩ := hk_63 _ _ hq_66
                show Ev E m_ga_fitOnDay 141 [(0, .ref 0), (1, .int x1), (2, .int x2), (3, .int x3), (4, .int (x4 - (gI X_45 r_55 4))), (5, .int x5), (6, .int x6), (7, .ref r_4)] [] X_64 (0, 0) Q
                refine ev_iinc (v := (x5 + 1)) (L2 := [(0, .ref 0), (1, .int x1), (2, .int x2), (3, .int x3), (4, .int (x4 - (gI X_45 r_55 4))), (5, .int (x5 + 1)), (6, .int x6), (7, .ref r_4)]) (pc := 141) d_ga_fitOnDay_141 rfl (by rw [kc_i_1]) rfl (Nat.le_of_ble_eq_true rfl) rfl ?_
                refine ev_iinc (v := (x6 + 1)) (L2 := [(0, .ref 0), (1, .int x1), (2, .int x2), (3, .int x3), (4, .int (x4 - (gI X_45 r_55 4))), (5, .int (x5 + 1)), (6, .int (x6 + 1)), (7, .ref r_4)]) (pc := 144) d_ga_fitOnDay_144 rfl (by rw [kc_i_1]) rfl (Nat.le_of_ble_eq_true rfl) rfl ?_
                refine ev_goto (pc := 147) (tgt := 17) d_ga_fitOnDay_147 (by decide) ?_
                exact ev_sub [(0, .ref 0), (1, .int x1), (2, .int x2), (3, .int x3), (4, .int (x4 - (gI X_45 r_55 4))), (5, .int (x5 + 1)), (6, .int (x6 + 1))] (List.forall_mem_cons.mpr ⟨rfl, (List.forall_mem_cons.mpr ⟨rfl, (List.forall_mem_cons.mpr ⟨rfl, (List.forall_mem_cons.mpr ⟨rfl, (List.forall_mem_cons.mpr ⟨rfl, (List.forall_mem_cons.mpr ⟨rfl, (List.forall_mem_cons.mpr ⟨rfl, (fun _ h => nomatch h)⟩)⟩)⟩)⟩)⟩)⟩)⟩) h_67
              · have h_54 := h_48.2 c_52
                refine ev_goto (pc := 117) (tgt := 144) d_ga_fitOnDay_117 (by decide) ?_
                refine ev_iinc (v := (x6 + 1)) (L2 := [(0, .ref 0), (1, .int x1), (2, .int x2), (3, .int x3), (4, .int x4), (5, .int x5), (6, .int (x6 + 1)), (7, .ref r_4)]) (pc := 144) d_ga_fitOnDay_144 rfl (by rw [kc_i_1]) rfl (Nat.le_of_ble_eq_true rfl) rfl ?_
                refine ev_goto (pc := 147) (tgt := 17) d_ga_fitOnDay_147 (by decide) ?_
                exact ev_sub [(0, .ref 0), (1, .int x1), (2, .int x2), (3, .int x3), (4, .int x4), (5, .int x5), (6, .int (x6 + 1))] (List.forall_mem_cons.mpr ⟨rfl, (List.forall_mem_cons.mpr ⟨rfl, (List.forall_mem_cons.mpr ⟨rfl, (List.forall_mem_cons.mpr ⟨rfl, (List.forall_mem_cons.mpr ⟨rfl, (List.forall_mem_cons.mpr ⟨rfl, (List.forall_mem_cons.mpr ⟨rfl, (fun _ h => nomatch h)⟩)⟩)⟩)⟩)⟩)⟩)⟩) h_54
          · have h_26 := h_23.2.2 c_24
            refine ev_goto (pc := 89) (tgt := 144) d_ga_fitOnDay_89 (by decide) ?_
            refine ev_iinc (v := (x6 + 1)) (L2 := [(0, .ref 0), (1, .int x1), (2, .int x2), (3, .int x3), (4, .int x4), (5, .int x5), (6, .int (x6 + 1)), (7, .ref r_4)]) (pc := 144) d_ga_fitOnDay_144 rfl (by rw [kc_i_1]) rfl (Nat.le_of_ble_eq_true rfl) rfl ?_
            refine ev_goto (pc := 147) (tgt := 17) d_ga_fitOnDay_147 (by decide) ?_
            exact ev_sub [(0, .ref 0), (1, .int x1), (2, .int x2), (3, .int x3), (4, .int x4), (5, .int x5), (6, .int (x6 + 1))] (List.forall_mem_cons.mpr ⟨rfl, (List.forall_mem_cons.mpr ⟨rfl, (List.forall_mem_cons.mpr ⟨rfl, (List.forall_mem_cons.mpr ⟨rfl, (List.forall_mem_cons.mpr ⟨rfl, (List.forall_mem_cons.mpr ⟨rfl, (List.forall_mem_cons.mpr ⟨rfl, (fun _ h => nomatch h)⟩)⟩)⟩)⟩)⟩)⟩)⟩) h_26
        · have h_17 := h_14.2 c_15
          refine ev_goto (pc := 67) (tgt := 144) d_ga_fitOnDay_67 (by decide) ?_
          refine ev_iinc (v := (x6 + 1)) (L2 := [(0, .ref 0), (1, .int x1), (2, .int x2), (3, .int x3), (4, .int x4), (5, .int x5), (6, .int (x6 + 1)), (7, .ref r_4)]) (pc := 144) d_ga_fitOnDay_144 rfl (by rw [kc_i_1]) rfl (Nat.le_of_ble_eq_true rfl) rfl ?_
          refine ev_goto (pc := 147) (tgt := 17) d_ga_fitOnDay_147 (by decide) ?_
          exact ev_sub [(0, .ref 0), (1, .int x1), (2, .int x2), (3, .int x3), (4, .int x4), (5, .int x5), (6, .int (x6 + 1))] (List.forall_mem_cons.mpr ⟨rfl, (List.forall_mem_cons.mpr ⟨rfl, (List.forall_mem_cons.mpr ⟨rfl, (List.forall_mem_cons.mpr ⟨rfl, (List.forall_mem_cons.mpr ⟨rfl, (List.forall_mem_cons.mpr ⟨rfl, (List.forall_mem_cons.mpr ⟨rfl, (fun _ h => nomatch h)⟩)⟩)⟩)⟩)⟩)⟩)⟩) h_17
theorem b_ga_hasJetsFor_0 {E : gp_E} {S : gp_S} {X : gp_H} {Q : Option Value → gp_H → Prop} {a1 c1 : Nat} (hX : Lay S X) (ha1 : gp_at X a1 (c1, 0)) (hg1 : c1 < 13 ∧ gp_gid c1 = 7) (hh : (vp_in (gI X a1 2) 5 ∧ (((gI X 19 (Int32.toNatClampNeg (gI X a1 2))) < (gI X a1 3) → Q (some (.int 0)) X) ∧ (¬ (gI X 19 (Int32.toNatClampNeg (gI X a1 2))) < (gI X a1 3) → Q (some (.int 1)) X)))) : Ev E m_ga_hasJetsFor 0 [(0, .ref 0), (1, .ref a1)] [] X (0, 0) Q := by
  refine ev_aload_n (x := 0) (pc := 0) d_ga_hasJetsFor_0 rfl ?_
  refine ev_getR (pc := 1) d_ga_hasJetsFor_1 f_ga_45 (ly_at hX 0 rfl) gg_11 rfl (ly_rf hX 0 10 rfl) ?_
  refine ev_aload_n (x := a1) (pc := 4) d_ga_hasJetsFor_4 rfl ?_
  refine ev_getJ (v := (gI X a1 2)) (pc := 5) d_ga_hasJetsFor_5 f_ga_531 ha1 hg1 rfl rfl ?_
  refine ev_ialdJ (v := (gI X 19 (Int32.toNatClampNeg (gI X a1 2)))) (pc := 8) d_ga_hasJetsFor_8 (ly_at hX 19 rfl) hh.1 rfl ?_
  refine ev_aload_n (x := a1) (pc := 9) d_ga_hasJetsFor_9 rfl ?_
  refine ev_getJ (v := (gI X a1 3)) (pc := 10) d_ga_hasJetsFor_10 f_ga_534 ha1 hg1 rfl rfl ?_
  refine ev_icmp_lt (pc := 13) (tgt := 20) d_ga_hasJetsFor_13 (by decide) (fun c_1 => ?_) (fun c_1 => ?_)
  · have h_2 := hh.2.1 c_1
    refine ev_iconst (v := 0) (pc := 20) d_ga_hasJetsFor_20 kc_i_0 ?_
    exact ev_iret (pc := 21) ⟨Nat.le_of_ble_eq_true rfl, Nat.le_of_ble_eq_true rfl⟩ d_ga_hasJetsFor_21 rfl nb_0 h_2
  · have h_3 := hh.2.2 c_1
    refine ev_iconst (v := 1) (pc := 16) d_ga_hasJetsFor_16 kc_i_1 ?_
    refine ev_goto (pc := 17) (tgt := 21) d_ga_hasJetsFor_17 (by decide) ?_
    exact ev_iret (pc := 21) ⟨Nat.le_of_ble_eq_true rfl, Nat.le_of_ble_eq_true rfl⟩ d_ga_hasJetsFor_21 rfl nb_1 h_3
theorem b_ga_fit_0 {E : gp_E} {S : gp_S} {X : gp_H} {Q : Option Value → gp_H → Prop} {a1 : Nat} {x2 : Int32} {x3 : Int32} (hX : Lay S X) (ha1 : gp_at X a1 (3, 0)) (hh : (∃ r_1 k_2 : Nat, X.2.2.1 a1 3 = some r_1 ∧ gp_at X r_1 (k_2, 0) ∧ (k_2 < 13 ∧ gp_gid k_2 = 7) ∧ (vp_in (gI X r_1 2) 5 ∧ (∃ r_7 k_8 : Nat, X.2.2.1 a1 3 = some r_7 ∧ gp_at X r_7 (k_8, 0) ∧ (k_8 < 13 ∧ gp_gid k_8 = 7) ∧ Q none (gp_sI (gp_sI (gp_sI (gp_sI (gp_sI X 19 (Int32.toNatClampNeg (gI X r_1 2)) ((gI X 19 (Int32.toNatClampNeg (gI X r_1 2))) - (gI X r_7 3))) a1 4 1) a1 5 x2) a1 6 (gI (gp_sI (gp_sI (gp_sI X 19 (Int32.toNatClampNeg (gI X r_1 2)) ((gI X 19 (Int32.toNatClampNeg (gI X r_1 2))) - (gI X r_7 3))) a1 4 1) a1 5 x2) 0 16)) a1 7 x3))))) : Ev E m_ga_fit 0 [(0, .ref 0), (1, .ref a1), (2, .int x2), (3, .int x3)] [] X (0, 0) Q := by
  refine ev_aload_n (x := 0) (pc := 0) d_ga_fit_0 rfl ?_
  refine ev_getR (pc := 1) d_ga_fit_1 f_ga_45 (ly_at hX 0 rfl) gg_11 rfl (ly_rf hX 0 10 rfl) ?_
  refine ev_aload_n (x := a1) (pc := 4) d_ga_fit_4 rfl ?_
  obtain ⟨r_1, k_2, hq_4, hb_3, hg_5, h_6⟩ := hh
  refine ev_getR (pc := 5) d_ga_fit_5 f_ga_354 ha1 gg_3 rfl hq_4 ?_
  refine ev_getJ (v := (gI X r_1 2)) (pc := 8) d_ga_fit_8 f_ga_531 hb_3 hg_5 rfl rfl ?_
  refine ev_dup2 (pc := 11) d_ga_fit_11 rfl rfl ?_
  refine ev_ialdJ (v := (gI X 19 (Int32.toNatClampNeg (gI X r_1 2)))) (pc := 12) d_ga_fit_12 (ly_at hX 19 rfl) h_6.1 rfl ?_
  refine ev_aload_n (x := a1) (pc := 13) d_ga_fit_13 rfl ?_
  obtain ⟨r_7, k_8, hq_10, hb_9, hg_11, h_12⟩ := h_6.2
  refine ev_getR (pc := 14) d_ga_fit_14 f_ga_354 ha1 gg_3 rfl hq_10 ?_
  refine ev_getJ (v := (gI X r_7 3)) (pc := 17) d_ga_fit_17 f_ga_534 hb_9 hg_11 rfl rfl ?_
  refine ev_isub (pc := 20) d_ga_fit_20 ?_
  refine ev_iast (pc := 21) d_ga_fit_21 (ly_at hX 19 rfl) h_6.1 ?_
  refine ev_aload_n (x := a1) (pc := 22) d_ga_fit_22 rfl ?_
  refine ev_iconst (v := 1) (pc := 23) d_ga_fit_23 kc_i_1 ?_
  refine ev_putI (pc := 24) d_ga_fit_24 f_ga_249 (at_sI ha1) gg_3 rfl (Or.inl rfl) (vp_nar_int _) rfl ?_
  refine ev_aload_n (x := a1) (pc := 27) d_ga_fit_27 rfl ?_
  refine ev_iload_n (x := x2) (pc := 28) d_ga_fit_28 rfl ?_
  refine ev_putI (pc := 29) d_ga_fit_29 f_ga_252 (at_sI (at_sI ha1)) gg_3 rfl (Or.inl rfl) (vp_nar_int _) rfl ?_
  refine ev_aload_n (x := a1) (pc := 32) d_ga_fit_32 rfl ?_
  refine ev_aload_n (x := 0) (pc := 33) d_ga_fit_33 rfl ?_
  refine ev_getJ (v := (gI (gp_sI (gp_sI (gp_sI X 19 (Int32.toNatClampNeg (gI X r_1 2)) ((gI X 19 (Int32.toNatClampNeg (gI X r_1 2))) - (gI X r_7 3))) a1 4 1) a1 5 x2) 0 16)) (pc := 34) d_ga_fit_34 f_ga_265 (ly_at (ly_sI (ly_sI (ly_sI hX))) 0 rfl) gg_11 rfl rfl ?_
  refine ev_putI (pc := 37) d_ga_fit_37 f_ga_255 (at_sI (at_sI (at_sI ha1))) gg_3 rfl (Or.inl rfl) (vp_nar_int _) rfl ?_
  refine ev_aload_n (x := a1) (pc := 40) d_ga_fit_40 rfl ?_
  refine ev_iload_n (x := x3) (pc := 41) d_ga_fit_41 rfl ?_
  refine ev_putI (pc := 42) d_ga_fit_42 f_ga_258 (at_sI (at_sI (at_sI (at_sI ha1)))) gg_3 rfl (Or.inl rfl) (vp_nar_int _) rfl ?_
  exact ev_ret (pc := 45) ⟨Nat.le_of_ble_eq_true rfl, Nat.le_of_ble_eq_true rfl⟩ d_ga_fit_45 rfl h_12
theorem b_ga_shutOldHomes_0 {E : gp_E} {S : gp_S} {X : gp_H} {Q : Option Value → gp_H → Prop} {x1 : Int32} (hX : Lay S X)  (hh : Ev E m_ga_shutOldHomes 2 [(0, .ref 0), (1, .int x1), (2, .int 0)] [] X (0, 0) Q) : Ev E m_ga_shutOldHomes 0 [(0, .ref 0), (1, .int x1)] [] X (0, 0) Q := by
  refine ev_iconst (v := 0) (pc := 0) d_ga_shutOldHomes_0 kc_i_0 ?_
  refine ev_istore_n (L2 := [(0, .ref 0), (1, .int x1), (2, .int 0)]) (pc := 1) d_ga_shutOldHomes_1 rfl (Nat.le_of_ble_eq_true rfl) rfl ?_
  exact hh
theorem b_ga_shutOldHomes_2 {E : gp_E} {S : gp_S} {X : gp_H} {Q : Option Value → gp_H → Prop} {x1 : Int32} {x2 : Int32} (hX : Lay S X)  (hh : (((gI X 0 6) ≤ x2 → Q none X) ∧ (¬ (gI X 0 6) ≤ x2 → (vp_in x2 40 ∧ ∃ r_4 : Nat, X.2.2.1 16 (Int32.toNatClampNeg x2) = some r_4 ∧ gp_at X r_4 (3, 0) ∧ ((¬ (gI X r_4 4) = 0 → Ev E m_ga_shutOldHomes 2 [(0, .ref 0), (1, .int x1), (2, .int (x2 + 1))] [] X (0, 0) Q) ∧ ((gI X r_4 4) = 0 → (vp_in x2 40 ∧ ∃ r_12 : Nat, X.2.2.1 16 (Int32.toNatClampNeg x2) = some r_12 ∧ gp_at X r_12 (3, 0) ∧ (((gb x1 (gI X r_12 0)) = false → Ev E m_ga_shutOldHomes 2 [(0, .ref 0), (1, .int x1), (2, .int (x2 + 1))] [] X (0, 0) Q) ∧ ((gb x1 (gI X r_12 0)) = true → (vp_in x2 40 ∧ ∃ r_20 : Nat, X.2.2.1 16 (Int32.toNatClampNeg x2) = some r_20 ∧ gp_at X r_20 (3, 0) ∧ Ev E m_ga_shutOldHomes 2 [(0, .ref 0), (1, .int x1), (2, .int (x2 + 1))] [] (gp_sI X r_20 4 2) (0, 0) Q)))))))))) : Ev E m_ga_shutOldHomes 2 [(0, .ref 0), (1, .int x1), (2, .int x2)] [] X (0, 0) Q := by
  refine ev_iload_n (x := x2) (pc := 2) d_ga_shutOldHomes_2 rfl ?_
  refine ev_aload_n (x := 0) (pc := 3) d_ga_shutOldHomes_3 rfl ?_
  refine ev_getJ (v := (gI X 0 6)) (pc := 4) d_ga_shutOldHomes_4 f_ga_198 (ly_at hX 0 rfl) gg_11 rfl rfl ?_
  refine ev_icmp_ge (pc := 7) (tgt := 54) d_ga_shutOldHomes_7 (by decide) (fun c_1 => ?_) (fun c_1 => ?_)
  · have h_2 := hh.1 c_1
    exact ev_ret (pc := 54) ⟨Nat.le_of_ble_eq_true rfl, Nat.le_of_ble_eq_true rfl⟩ d_ga_shutOldHomes_54 rfl h_2
  · have h_3 := hh.2 c_1
    refine ev_aload_n (x := 0) (pc := 10) d_ga_shutOldHomes_10 rfl ?_
    refine ev_getR (pc := 11) d_ga_shutOldHomes_11 f_ga_35 (ly_at hX 0 rfl) gg_11 rfl (ly_rf hX 0 5 rfl) ?_
    refine ev_iload_n (x := x2) (pc := 14) d_ga_shutOldHomes_14 rfl ?_
    obtain ⟨hv_7, r_4, hq_6, hb_5, h_8⟩ := h_3
    refine ev_ald4 (pc := 15) d_ga_shutOldHomes_15 (ly_at hX 16 rfl) hv_7 hq_6 ?_
    refine ev_getJ (v := (gI X r_4 4)) (pc := 16) d_ga_shutOldHomes_16 f_ga_249 hb_5 gg_3 rfl rfl ?_
    refine ev_if_ne (pc := 19) (tgt := 48) d_ga_shutOldHomes_19 (by decide) (fun c_9 => ?_) (fun c_9 => ?_)
    · have h_10 := h_8.1 c_9
      refine ev_iinc (v := (x2 + 1)) (L2 := [(0, .ref 0), (1, .int x1), (2, .int (x2 + 1))]) (pc := 48) d_ga_shutOldHomes_48 rfl (by rw [kc_i_1]) rfl (Nat.le_of_ble_eq_true rfl) rfl ?_
      refine ev_goto (pc := 51) (tgt := 2) d_ga_shutOldHomes_51 (by decide) ?_
      exact h_10
    · have h_11 := h_8.2 c_9
      refine ev_iload_n (x := x1) (pc := 22) d_ga_shutOldHomes_22 rfl ?_
      refine ev_aload_n (x := 0) (pc := 23) d_ga_shutOldHomes_23 rfl ?_
      refine ev_getR (pc := 24) d_ga_shutOldHomes_24 f_ga_35 (ly_at hX 0 rfl) gg_11 rfl (ly_rf hX 0 5 rfl) ?_
      refine ev_iload_n (x := x2) (pc := 27) d_ga_shutOldHomes_27 rfl ?_
      obtain ⟨hv_15, r_12, hq_14, hb_13, h_16⟩ := h_11
      refine ev_ald4 (pc := 28) d_ga_shutOldHomes_28 (ly_at hX 16 rfl) hv_15 hq_14 ?_
      refine ev_getJ (v := (gI X r_12 0)) (pc := 29) d_ga_shutOldHomes_29 f_ga_240 hb_13 gg_3 rfl rfl ?_
      refine ev_callS (z := m_ga_hasBit) (as := [.int x1, .int (gI X r_12 0)]) (rest := []) (pc := 32) d_ga_shutOldHomes_32 l_ga_351 i_ga_hasBit o_ga_hasBit rfl rfl (Nat.le_of_ble_eq_true rfl) rfl (Nat.le_of_ble_eq_true rfl) ⟨Nat.le_of_ble_eq_true rfl, Nat.le_of_ble_eq_true rfl⟩ (s_ga_hasBit hX x1 (gI X r_12 0)) (fun r X1 hq => ?_)
      obtain ⟨rfl, rfl⟩ := hq
      show Ev E m_ga_shutOldHomes 35 [(0, .ref 0), (1, .int x1), (2, .int x2)] [.int (bz (gb x1 (gI X r_12 0)))] X (0, 0) Q
      refine ev_ifz_eq (pc := 35) (tgt := 48) d_ga_shutOldHomes_35 (by decide) (fun c_17 => ?_) (fun c_17 => ?_)
      · have h_18 := h_16.1 c_17
        refine ev_iinc (v := (x2 + 1)) (L2 := [(0, .ref 0), (1, .int x1), (2, .int (x2 + 1))]) (pc := 48) d_ga_shutOldHomes_48 rfl (by rw [kc_i_1]) rfl (Nat.le_of_ble_eq_true rfl) rfl ?_
        refine ev_goto (pc := 51) (tgt := 2) d_ga_shutOldHomes_51 (by decide) ?_
        exact h_18
      · have h_19 := h_16.2 c_17
        refine ev_aload_n (x := 0) (pc := 38) d_ga_shutOldHomes_38 rfl ?_
        refine ev_getR (pc := 39) d_ga_shutOldHomes_39 f_ga_35 (ly_at hX 0 rfl) gg_11 rfl (ly_rf hX 0 5 rfl) ?_
        refine ev_iload_n (x := x2) (pc := 42) d_ga_shutOldHomes_42 rfl ?_
        obtain ⟨hv_23, r_20, hq_22, hb_21, h_24⟩ := h_19
        refine ev_ald4 (pc := 43) d_ga_shutOldHomes_43 (ly_at hX 16 rfl) hv_23 hq_22 ?_
        refine ev_iconst (v := 2) (pc := 44) d_ga_shutOldHomes_44 kc_i_2 ?_
        refine ev_putI (pc := 45) d_ga_shutOldHomes_45 f_ga_249 hb_21 gg_3 rfl (Or.inl rfl) (vp_nar_int _) rfl ?_
        refine ev_iinc (v := (x2 + 1)) (L2 := [(0, .ref 0), (1, .int x1), (2, .int (x2 + 1))]) (pc := 48) d_ga_shutOldHomes_48 rfl (by rw [kc_i_1]) rfl (Nat.le_of_ble_eq_true rfl) rfl ?_
        refine ev_goto (pc := 51) (tgt := 2) d_ga_shutOldHomes_51 (by decide) ?_
        exact h_24
theorem b_ga_endWeek_0 {E : gp_E} {S : gp_S} {X : gp_H} {Q : Option Value → gp_H → Prop}  (hX : Lay S X)  (hh : Ev E m_ga_endWeek 4 [(0, .ref 0), (1, .int 0), (2, .int 0)] [] X (0, 0) Q) : Ev E m_ga_endWeek 0 [(0, .ref 0)] [] X (0, 0) Q := by
  refine ev_iconst (v := 0) (pc := 0) d_ga_endWeek_0 kc_i_0 ?_
  refine ev_istore_n (L2 := [(0, .ref 0), (1, .int 0)]) (pc := 1) d_ga_endWeek_1 rfl (Nat.le_of_ble_eq_true rfl) rfl ?_
  refine ev_iconst (v := 0) (pc := 2) d_ga_endWeek_2 kc_i_0 ?_
  refine ev_istore_n (L2 := [(0, .ref 0), (1, .int 0), (2, .int 0)]) (pc := 3) d_ga_endWeek_3 rfl (Nat.le_of_ble_eq_true rfl) rfl ?_
  exact hh
theorem b_ga_endWeek_4 {E : gp_E} {S : gp_S} {X : gp_H} {Q : Option Value → gp_H → Prop} {x1 : Int32} {x2 : Int32} (hX : Lay S X)  (hh : (((gI X 1 9) ≤ x2 → Ev E m_ga_endWeek 99 [(0, .ref 0), (1, .int x1), (2, .int 0)] [] (gp_sI X 0 16 ((gI X 0 16) + 1)) (0, 0) Q) ∧ (¬ (gI X 1 9) ≤ x2 → (vp_in x2 5 ∧ (((gI X 11 (Int32.toNatClampNeg x2)) = 0 → Ev E m_ga_endWeek 4 [(0, .ref 0), (1, .int x1), (2, .int (x2 + 1))] [] X (0, 0) Q) ∧ (¬ (gI X 11 (Int32.toNatClampNeg x2)) = 0 → (((gb x1 (gI X 8 (Int32.toNatClampNeg x2))) = false → (∃ Qz_10, Ev E m_ne_areaOf 0 [(0, .ref 1), (1, .int (gI X 8 (Int32.toNatClampNeg x2)))] [] X (0, 0) Qz_10 ∧ ∀ r X_13, Qz_10 r X_13 → ∃ v_18 : Int32, r = some (.int v_18) ∧ Lay S X_13 ∧ (∃ Qz_19, Ev E m_ga_useIn 0 [(0, .ref 0), (1, .int v_18), (2, .int 1)] [] X_13 (0, 0) Qz_19 ∧ ∀ r X_22, Qz_19 r X_22 → ∃ v_27 : Int32, r = some (.int v_27) ∧ Lay S X_22 ∧ (∃ Qz_28, Ev E m_ne_burnCoal 0 [(0, .ref 1), (1, .int v_18), (2, .int v_27)] [] X_22 (0, 0) Qz_28 ∧ ∀ r X_31, Qz_28 r X_31 → (r = none ∧ Lay S X_31 ∧ Ev E m_ga_endWeek 4 [(0, .ref 0), (1, .int (x1 ||| v_18)), (2, .int (x2 + 1))] [] X_31 (0, 0) Q))))) ∧ ((gb x1 (gI X 8 (Int32.toNatClampNeg x2))) = true → Ev E m_ga_endWeek 4 [(0, .ref 0), (1, .int x1), (2, .int (x2 + 1))] [] X (0, 0) Q)))))))) : Ev E m_ga_endWeek 4 [(0, .ref 0), (1, .int x1), (2, .int x2)] [] X (0, 0) Q := by
  refine ev_iload_n (x := x2) (pc := 4) d_ga_endWeek_4 rfl ?_
  refine ev_aload_n (x := 0) (pc := 5) d_ga_endWeek_5 rfl ?_
  refine ev_getR (pc := 6) d_ga_endWeek_6 f_ga_10 (ly_at hX 0 rfl) gg_11 rfl (ly_rf hX 0 0 rfl) ?_
  refine ev_getJ (v := (gI X 1 9)) (pc := 9) d_ga_endWeek_9 f_ga_132 (ly_at hX 1 rfl) gg_5 rfl rfl ?_
  refine ev_icmp_ge (pc := 12) (tgt := 87) d_ga_endWeek_12 (by decide) (fun c_1 => ?_) (fun c_1 => ?_)
  · have h_2 := hh.1 c_1
    refine ev_aload_n (x := 0) (pc := 87) d_ga_endWeek_87 rfl ?_
    refine ev_dup (pc := 88) d_ga_endWeek_88 rfl ?_
    refine ev_getJ (v := (gI X 0 16)) (pc := 89) d_ga_endWeek_89 f_ga_265 (ly_at hX 0 rfl) gg_11 rfl rfl ?_
    refine ev_iconst (v := 1) (pc := 92) d_ga_endWeek_92 kc_i_1 ?_
    refine ev_iadd (pc := 93) d_ga_endWeek_93 ?_
    refine ev_putI (pc := 94) d_ga_endWeek_94 f_ga_265 (ly_at hX 0 rfl) gg_11 rfl (Or.inl rfl) (vp_nar_int _) rfl ?_
    refine ev_iconst (v := 0) (pc := 97) d_ga_endWeek_97 kc_i_0 ?_
    refine ev_istore_n (L2 := [(0, .ref 0), (1, .int x1), (2, .int 0)]) (pc := 98) d_ga_endWeek_98 rfl (Nat.le_of_ble_eq_true rfl) rfl ?_
    exact h_2
  · have h_3 := hh.2 c_1
    refine ev_aload_n (x := 0) (pc := 15) d_ga_endWeek_15 rfl ?_
    refine ev_getR (pc := 16) d_ga_endWeek_16 f_ga_10 (ly_at hX 0 rfl) gg_11 rfl (ly_rf hX 0 0 rfl) ?_
    refine ev_getR (pc := 19) d_ga_endWeek_19 f_ga_142 (ly_at hX 1 rfl) gg_5 rfl (ly_rf hX 1 13 rfl) ?_
    refine ev_iload_n (x := x2) (pc := 22) d_ga_endWeek_22 rfl ?_
    refine ev_zaldJ (v := (gI X 11 (Int32.toNatClampNeg x2))) (pc := 23) d_ga_endWeek_23 (ly_at hX 11 rfl) h_3.1 rfl ?_
    refine ev_if_eq (pc := 24) (tgt := 81) d_ga_endWeek_24 (by decide) (fun c_4 => ?_) (fun c_4 => ?_)
    · have h_5 := h_3.2.1 c_4
      refine ev_iinc (v := (x2 + 1)) (L2 := [(0, .ref 0), (1, .int x1), (2, .int (x2 + 1))]) (pc := 81) d_ga_endWeek_81 rfl (by rw [kc_i_1]) rfl (Nat.le_of_ble_eq_true rfl) rfl ?_
      refine ev_goto (pc := 84) (tgt := 4) d_ga_endWeek_84 (by decide) ?_
      exact h_5
    · have h_6 := h_3.2.2 c_4
      refine ev_iload_n (x := x1) (pc := 27) d_ga_endWeek_27 rfl ?_
      refine ev_aload_n (x := 0) (pc := 28) d_ga_endWeek_28 rfl ?_
      refine ev_getR (pc := 29) d_ga_endWeek_29 f_ga_10 (ly_at hX 0 rfl) gg_11 rfl (ly_rf hX 0 0 rfl) ?_
      refine ev_getR (pc := 32) d_ga_endWeek_32 f_ga_145 (ly_at hX 1 rfl) gg_5 rfl (ly_rf hX 1 10 rfl) ?_
      refine ev_iload_n (x := x2) (pc := 35) d_ga_endWeek_35 rfl ?_
      refine ev_ialdJ (v := (gI X 8 (Int32.toNatClampNeg x2))) (pc := 36) d_ga_endWeek_36 (ly_at hX 8 rfl) h_3.1 rfl ?_
      refine ev_callS (z := m_ga_hasBit) (as := [.int x1, .int (gI X 8 (Int32.toNatClampNeg x2))]) (rest := []) (pc := 37) d_ga_endWeek_37 l_ga_351 i_ga_hasBit o_ga_hasBit rfl rfl (Nat.le_of_ble_eq_true rfl) rfl (Nat.le_of_ble_eq_true rfl) ⟨Nat.le_of_ble_eq_true rfl, Nat.le_of_ble_eq_true rfl⟩ (s_ga_hasBit hX x1 (gI X 8 (Int32.toNatClampNeg x2))) (fun r X1 hq => ?_)
      obtain ⟨rfl, rfl⟩ := hq
      show Ev E m_ga_endWeek 40 [(0, .ref 0), (1, .int x1), (2, .int x2)] [.int (bz (gb x1 (gI X 8 (Int32.toNatClampNeg x2))))] X (0, 0) Q
      refine ev_ifz_eq (pc := 40) (tgt := 46) d_ga_endWeek_40 (by decide) (fun c_7 => ?_) (fun c_7 => ?_)
      · have h_8 := h_6.1 c_7
        refine ev_aload_n (x := 0) (pc := 46) d_ga_endWeek_46 rfl ?_
        refine ev_getR (pc := 47) d_ga_endWeek_47 f_ga_10 (ly_at hX 0 rfl) gg_11 rfl (ly_rf hX 0 0 rfl) ?_
        refine ev_aload_n (x := 0) (pc := 50) d_ga_endWeek_50 rfl ?_
        refine ev_getR (pc := 51) d_ga_endWeek_51 f_ga_10 (ly_at hX 0 rfl) gg_11 rfl (ly_rf hX 0 0 rfl) ?_
        refine ev_getR (pc := 54) d_ga_endWeek_54 f_ga_145 (ly_at hX 1 rfl) gg_5 rfl (ly_rf hX 1 10 rfl) ?_
        refine ev_iload_n (x := x2) (pc := 57) d_ga_endWeek_57 rfl ?_
        refine ev_ialdJ (v := (gI X 8 (Int32.toNatClampNeg x2))) (pc := 58) d_ga_endWeek_58 (ly_at hX 8 rfl) h_3.1 rfl ?_
        obtain ⟨Qz_10, hc_11, hk_12⟩ := h_8
        refine ev_callV (z := m_ne_areaOf) (as := [.int (gI X 8 (Int32.toNatClampNeg x2))]) (rest := []) (pc := 59) d_ga_endWeek_59 (ly_at hX 1 rfl) lt13_5 rfl l_ga_170 i_ne_areaOf v_ne_areaOf o_ne_areaOf rfl rfl (Nat.le_of_ble_eq_true rfl) rfl (Nat.le_of_ble_eq_true rfl) ⟨Nat.le_of_ble_eq_true rfl, Nat.le_of_ble_eq_true rfl⟩ hc_11 (fun r_14 X_13 hq_15 => ?_)
        obtain ⟨v_18, rfl, hX_17, h_16⟩ := hk_12 _ _ hq_15
        show Ev E m_ga_endWeek 62 [(0, .ref 0), (1, .int x1), (2, .int x2)] [.int v_18] X_13 (0, 0) Q
        refine ev_istore_n (L2 := [(0, .ref 0), (1, .int x1), (2, .int x2), (3, .int v_18)]) (pc := 62) d_ga_endWeek_62 rfl (Nat.le_of_ble_eq_true rfl) rfl ?_
        refine ev_iload_n (x := x1) (pc := 63) d_ga_endWeek_63 rfl ?_
        refine ev_iload_n (x := v_18) (pc := 64) d_ga_endWeek_64 rfl ?_
        refine ev_ior (pc := 65) d_ga_endWeek_65 ?_
        refine ev_istore_n (L2 := [(0, .ref 0), (1, .int (x1 ||| v_18)), (2, .int x2), (3, .int v_18)]) (pc := 66) d_ga_endWeek_66 rfl (Nat.le_of_ble_eq_true rfl) rfl ?_
        refine ev_aload_n (x := 0) (pc := 67) d_ga_endWeek_67 rfl ?_
        refine ev_getR (pc := 68) d_ga_endWeek_68 f_ga_10 (ly_at hX_17 0 rfl) gg_11 rfl (ly_rf hX_17 0 0 rfl) ?_
        refine ev_iload_n (x := v_18) (pc := 71) d_ga_endWeek_71 rfl ?_
        refine ev_aload_n (x := 0) (pc := 72) d_ga_endWeek_72 rfl ?_
        refine ev_iload_n (x := v_18) (pc := 73) d_ga_endWeek_73 rfl ?_
        refine ev_iconst (v := 1) (pc := 74) d_ga_endWeek_74 kc_i_1 ?_
        obtain ⟨Qz_19, hc_20, hk_21⟩ := h_16
        refine ev_callV (z := m_ga_useIn) (as := [.int v_18, .int 1]) (rest := [.int v_18, .ref 1]) (pc := 75) d_ga_endWeek_75 (ly_at hX_17 0 rfl) lt13_11 rfl l_ga_177 i_ga_useIn v_ga_useIn o_ga_useIn rfl rfl (Nat.le_of_ble_eq_true rfl) rfl (Nat.le_of_ble_eq_true rfl) ⟨Nat.le_of_ble_eq_true rfl, Nat.le_of_ble_eq_true rfl⟩ hc_20 (fun r_23 X_22 hq_24 => ?_)
        obtain ⟨v_27, rfl, hX_26, h_25⟩ := hk_21 _ _ hq_24
        show Ev E m_ga_endWeek 78 [(0, .ref 0), (1, .int (x1 ||| v_18)), (2, .int x2), (3, .int v_18)] [.int v_27, .int v_18, .ref 1] X_22 (0, 0) Q
        obtain ⟨Qz_28, hc_29, hk_30⟩ := h_25
        refine ev_callV (z := m_ne_burnCoal) (as := [.int v_18, .int v_27]) (rest := []) (pc := 78) d_ga_endWeek_78 (ly_at hX_26 1 rfl) lt13_5 rfl l_ga_537 i_ne_burnCoal v_ne_burnCoal o_ne_burnCoal rfl rfl (Nat.le_of_ble_eq_true rfl) rfl (Nat.le_of_ble_eq_true rfl) ⟨Nat.le_of_ble_eq_true rfl, Nat.le_of_ble_eq_true rfl⟩ hc_29 (fun r_32 X_31 hq_33 => ?_)
        obtain ⟨rfl, hX_35, h_34⟩ := hk_30 _ _ hq_33
        show Ev E m_ga_endWeek 81 [(0, .ref 0), (1, .int (x1 ||| v_18)), (2, .int x2), (3, .int v_18)] [] X_31 (0, 0) Q
        refine ev_iinc (v := (x2 + 1)) (L2 := [(0, .ref 0), (1, .int (x1 ||| v_18)), (2, .int (x2 + 1)), (3, .int v_18)]) (pc := 81) d_ga_endWeek_81 rfl (by rw [kc_i_1]) rfl (Nat.le_of_ble_eq_true rfl) rfl ?_
        refine ev_goto (pc := 84) (tgt := 4) d_ga_endWeek_84 (by decide) ?_
        exact ev_sub [(0, .ref 0), (1, .int (x1 ||| v_18)), (2, .int (x2 + 1))] (List.forall_mem_cons.mpr ⟨rfl, (List.forall_mem_cons.mpr ⟨rfl, (List.forall_mem_cons.mpr ⟨rfl, (fun _ h => nomatch h)⟩)⟩)⟩) h_34
      · have h_9 := h_6.2 c_7
        refine ev_goto (pc := 43) (tgt := 81) d_ga_endWeek_43 (by decide) ?_
        refine ev_iinc (v := (x2 + 1)) (L2 := [(0, .ref 0), (1, .int x1), (2, .int (x2 + 1))]) (pc := 81) d_ga_endWeek_81 rfl (by rw [kc_i_1]) rfl (Nat.le_of_ble_eq_true rfl) rfl ?_
        refine ev_goto (pc := 84) (tgt := 4) d_ga_endWeek_84 (by decide) ?_
        exact h_9
theorem b_ga_endWeek_99 {E : gp_E} {S : gp_S} {X : gp_H} {Q : Option Value → gp_H → Prop} {x1 : Int32} {x2 : Int32} (hX : Lay S X)  (hh : (((gI X 0 14) ≤ x2 → Q none X) ∧ (¬ (gI X 0 14) ≤ x2 → (vp_in x2 30 ∧ (((gI X 22 (Int32.toNatClampNeg x2)) = (gI X 0 16) → (vp_in (gI X 20 (Int32.toNatClampNeg x2)) 5 ∧ Ev E m_ga_endWeek 99 [(0, .ref 0), (1, .int x1), (2, .int (x2 + 1))] [] (gp_sI X 19 (Int32.toNatClampNeg (gI X 20 (Int32.toNatClampNeg x2))) (if ((gI X 19 (Int32.toNatClampNeg (gI X 20 (Int32.toNatClampNeg x2)))) + (gI X 21 (Int32.toNatClampNeg x2))) < 9999 then ((gI X 19 (Int32.toNatClampNeg (gI X 20 (Int32.toNatClampNeg x2)))) + (gI X 21 (Int32.toNatClampNeg x2))) else 9999)) (0, 0) Q)) ∧ (¬ (gI X 22 (Int32.toNatClampNeg x2)) = (gI X 0 16) → Ev E m_ga_endWeek 99 [(0, .ref 0), (1, .int x1), (2, .int (x2 + 1))] [] X (0, 0) Q)))))) : Ev E m_ga_endWeek 99 [(0, .ref 0), (1, .int x1), (2, .int x2)] [] X (0, 0) Q := by
  refine ev_iload_n (x := x2) (pc := 99) d_ga_endWeek_99 rfl ?_
  refine ev_aload_n (x := 0) (pc := 100) d_ga_endWeek_100 rfl ?_
  refine ev_getJ (v := (gI X 0 14)) (pc := 101) d_ga_endWeek_101 f_ga_268 (ly_at hX 0 rfl) gg_11 rfl rfl ?_
  refine ev_icmp_ge (pc := 104) (tgt := 161) d_ga_endWeek_104 (by decide) (fun c_1 => ?_) (fun c_1 => ?_)
  · have h_2 := hh.1 c_1
    exact ev_ret (pc := 161) ⟨Nat.le_of_ble_eq_true rfl, Nat.le_of_ble_eq_true rfl⟩ d_ga_endWeek_161 rfl h_2
  · have h_3 := hh.2 c_1
    refine ev_aload_n (x := 0) (pc := 107) d_ga_endWeek_107 rfl ?_
    refine ev_getR (pc := 108) d_ga_endWeek_108 f_ga_54 (ly_at hX 0 rfl) gg_11 rfl (ly_rf hX 0 13 rfl) ?_
    refine ev_iload_n (x := x2) (pc := 111) d_ga_endWeek_111 rfl ?_
    refine ev_ialdJ (v := (gI X 22 (Int32.toNatClampNeg x2))) (pc := 112) d_ga_endWeek_112 (ly_at hX 22 rfl) h_3.1 rfl ?_
    refine ev_aload_n (x := 0) (pc := 113) d_ga_endWeek_113 rfl ?_
    refine ev_getJ (v := (gI X 0 16)) (pc := 114) d_ga_endWeek_114 f_ga_265 (ly_at hX 0 rfl) gg_11 rfl rfl ?_
    refine ev_icmp_eq (pc := 117) (tgt := 123) d_ga_endWeek_117 (by decide) (fun c_4 => ?_) (fun c_4 => ?_)
    · have h_5 := h_3.2.1 c_4
      refine ev_aload_n (x := 0) (pc := 123) d_ga_endWeek_123 rfl ?_
      refine ev_getR (pc := 124) d_ga_endWeek_124 f_ga_48 (ly_at hX 0 rfl) gg_11 rfl (ly_rf hX 0 11 rfl) ?_
      refine ev_iload_n (x := x2) (pc := 127) d_ga_endWeek_127 rfl ?_
      refine ev_ialdJ (v := (gI X 20 (Int32.toNatClampNeg x2))) (pc := 128) d_ga_endWeek_128 (ly_at hX 20 rfl) h_3.1 rfl ?_
      refine ev_istore_n (L2 := [(0, .ref 0), (1, .int x1), (2, .int x2), (3, .int (gI X 20 (Int32.toNatClampNeg x2)))]) (pc := 129) d_ga_endWeek_129 rfl (Nat.le_of_ble_eq_true rfl) rfl ?_
      refine ev_aload_n (x := 0) (pc := 130) d_ga_endWeek_130 rfl ?_
      refine ev_getR (pc := 131) d_ga_endWeek_131 f_ga_45 (ly_at hX 0 rfl) gg_11 rfl (ly_rf hX 0 10 rfl) ?_
      refine ev_iload_n (x := (gI X 20 (Int32.toNatClampNeg x2))) (pc := 134) d_ga_endWeek_134 rfl ?_
      refine ev_sipush (v := 9999) (pc := 135) d_ga_endWeek_135 kc_s_9999 ?_
      refine ev_aload_n (x := 0) (pc := 138) d_ga_endWeek_138 rfl ?_
      refine ev_getR (pc := 139) d_ga_endWeek_139 f_ga_45 (ly_at hX 0 rfl) gg_11 rfl (ly_rf hX 0 10 rfl) ?_
      refine ev_iload_n (x := (gI X 20 (Int32.toNatClampNeg x2))) (pc := 142) d_ga_endWeek_142 rfl ?_
      refine ev_ialdJ (v := (gI X 19 (Int32.toNatClampNeg (gI X 20 (Int32.toNatClampNeg x2))))) (pc := 143) d_ga_endWeek_143 (ly_at hX 19 rfl) h_5.1 rfl ?_
      refine ev_aload_n (x := 0) (pc := 144) d_ga_endWeek_144 rfl ?_
      refine ev_getR (pc := 145) d_ga_endWeek_145 f_ga_51 (ly_at hX 0 rfl) gg_11 rfl (ly_rf hX 0 12 rfl) ?_
      refine ev_iload_n (x := x2) (pc := 148) d_ga_endWeek_148 rfl ?_
      refine ev_ialdJ (v := (gI X 21 (Int32.toNatClampNeg x2))) (pc := 149) d_ga_endWeek_149 (ly_at hX 21 rfl) h_3.1 rfl ?_
      refine ev_iadd (pc := 150) d_ga_endWeek_150 ?_
      refine ev_mmin (pc := 151) d_ga_endWeek_151 l_ga_440 ⟨Nat.le_of_ble_eq_true rfl, Nat.le_of_ble_eq_true rfl⟩ ⟨Nat.le_of_ble_eq_true rfl, Nat.le_of_ble_eq_true rfl⟩ ?_
      refine ev_iast (pc := 154) d_ga_endWeek_154 (ly_at hX 19 rfl) h_5.1 ?_
      refine ev_iinc (v := (x2 + 1)) (L2 := [(0, .ref 0), (1, .int x1), (2, .int (x2 + 1)), (3, .int (gI X 20 (Int32.toNatClampNeg x2)))]) (pc := 155) d_ga_endWeek_155 rfl (by rw [kc_i_1]) rfl (Nat.le_of_ble_eq_true rfl) rfl ?_
      refine ev_goto (pc := 158) (tgt := 99) d_ga_endWeek_158 (by decide) ?_
      exact ev_sub [(0, .ref 0), (1, .int x1), (2, .int (x2 + 1))] (List.forall_mem_cons.mpr ⟨rfl, (List.forall_mem_cons.mpr ⟨rfl, (List.forall_mem_cons.mpr ⟨rfl, (fun _ h => nomatch h)⟩)⟩)⟩) h_5.2
    · have h_6 := h_3.2.2 c_4
      refine ev_goto (pc := 120) (tgt := 155) d_ga_endWeek_120 (by decide) ?_
      refine ev_iinc (v := (x2 + 1)) (L2 := [(0, .ref 0), (1, .int x1), (2, .int (x2 + 1))]) (pc := 155) d_ga_endWeek_155 rfl (by rw [kc_i_1]) rfl (Nat.le_of_ble_eq_true rfl) rfl ?_
      refine ev_goto (pc := 158) (tgt := 99) d_ga_endWeek_158 (by decide) ?_
      exact h_6
theorem b_ga_week_0 {E : gp_E} {S : gp_S} {X : gp_H} {Q : Option Value → gp_H → Prop}  (hX : Lay S X)  (hh : (((gI X 0 16) < 200 → (∃ Qz_4, Ev E m_ga_endWeek 0 [(0, .ref 0)] [] X (0, 0) Qz_4 ∧ ∀ r X_7, Qz_4 r X_7 → (r = none ∧ Lay S X_7 ∧ Q (some (.int (gI X_7 0 16))) X_7))) ∧ (¬ (gI X 0 16) < 200 → Q (some (.int (-3))) X))) : Ev E m_ga_week 0 [(0, .ref 0)] [] X (0, 0) Q := by
  refine ev_aload_n (x := 0) (pc := 0) d_ga_week_0 rfl ?_
  refine ev_getJ (v := (gI X 0 16)) (pc := 1) d_ga_week_1 f_ga_265 (ly_at hX 0 rfl) gg_11 rfl rfl ?_
  refine ev_sipush (v := 200) (pc := 4) d_ga_week_4 kc_s_200 ?_
  refine ev_icmp_lt (pc := 7) (tgt := 13) d_ga_week_7 (by decide) (fun c_1 => ?_) (fun c_1 => ?_)
  · have h_2 := hh.1 c_1
    refine ev_aload_n (x := 0) (pc := 13) d_ga_week_13 rfl ?_
    obtain ⟨Qz_4, hc_5, hk_6⟩ := h_2
    refine ev_callV (z := m_ga_endWeek) (as := []) (rest := []) (pc := 14) d_ga_week_14 (ly_at hX 0 rfl) lt13_11 rfl l_ga_345 i_ga_endWeek v_ga_endWeek o_ga_endWeek rfl rfl (Nat.le_of_ble_eq_true rfl) rfl (Nat.le_of_ble_eq_true rfl) ⟨Nat.le_of_ble_eq_true rfl, Nat.le_of_ble_eq_true rfl⟩ hc_5 (fun r_8 X_7 hq_9 => ?_)
    obtain ⟨rfl, hX_11, h_10⟩ := hk_6 _ _ hq_9
    show Ev E m_ga_week 17 [(0, .ref 0)] [] X_7 (0, 0) Q
    refine ev_aload_n (x := 0) (pc := 17) d_ga_week_17 rfl ?_
    refine ev_getJ (v := (gI X_7 0 16)) (pc := 18) d_ga_week_18 f_ga_265 (ly_at hX_11 0 rfl) gg_11 rfl rfl ?_
    exact ev_iret (pc := 21) ⟨Nat.le_of_ble_eq_true rfl, Nat.le_of_ble_eq_true rfl⟩ d_ga_week_21 rfl (vp_nar_int _) h_10
  · have h_3 := hh.2 c_1
    refine ev_bipush (v := (-3)) (pc := 10) d_ga_week_10 kc_b_m3 ?_
    exact ev_iret (pc := 12) ⟨Nat.le_of_ble_eq_true rfl, Nat.le_of_ble_eq_true rfl⟩ d_ga_week_12 rfl (vp_nar_int _) h_3
theorem b_ga_later_0 {E : gp_E} {S : gp_S} {X : gp_H} {Q : Option Value → gp_H → Prop} {x1 : Int32} {x2 : Int32} (hX : Lay S X)  (hh : (∃ Qz_1, Ev E m_ga_homeAt 0 [(0, .ref 0), (1, .int x1)] [] X (0, 0) Qz_1 ∧ ∀ r X_4, Qz_1 r X_4 → ((∃ a_10 : Nat, r = some (.ref a_10) ∧ gp_at X_4 a_10 (3, 0) ∧ Lay S X_4 ∧ (((iw x2 0 ((gI X_4 31 0) - 1)) = true → ((¬ (gI X_4 a_10 4) = 2 → Q (some (.int (-3))) X_4) ∧ ((gI X_4 a_10 4) = 2 → (∃ Qz_19, Ev E m_se_changedKnots 0 [(0, .ref 23)] [] X_4 (0, 0) Qz_19 ∧ ∀ r X_22, Qz_19 r X_22 → ∃ v_28 : Int32, r = some (.int v_28) ∧ Lay S X_22 ∧ gp_at X_22 a_10 (3, 0) ∧ (((gb v_28 (gI X_22 a_10 0)) = true → (∃ r_32 k_33 : Nat, X_22.2.2.1 a_10 3 = some r_32 ∧ gp_at X_22 r_32 (k_33, 0) ∧ (k_33 < 13 ∧ gp_gid k_33 = 7) ∧ (vp_in x2 8 ∧ (((gb (gI X_22 32 (Int32.toNatClampNeg x2)) (gI X_22 r_32 5)) = false → Q (some (.int (-3))) X_22) ∧ ((gb (gI X_22 32 (Int32.toNatClampNeg x2)) (gI X_22 r_32 5)) = true → (∃ r_41 k_42 : Nat, X_22.2.2.1 a_10 3 = some r_41 ∧ gp_at X_22 r_41 (k_42, 0) ∧ (k_42 < 13 ∧ gp_gid k_42 = 7) ∧ (∃ Qz_47, Ev E m_ga_hasJetsFor 0 [(0, .ref 0), (1, .ref r_41)] [] X_22 (0, 0) Qz_47 ∧ ∀ r X_50, Qz_47 r X_50 → ∃ v_56 : Int32, r = some (.int v_56) ∧ Lay S X_50 ∧ gp_at X_50 a_10 (3, 0) ∧ ((¬ v_56 = 0 → (∃ Qz_60, Ev E m_ga_fit 0 [(0, .ref 0), (1, .ref a_10), (2, .int x2), (3, .int 5)] [] X_50 (0, 0) Qz_60 ∧ ∀ r X_63, Qz_60 r X_63 → (r = none ∧ Lay S X_63 ∧ gp_at X_63 a_10 (3, 0) ∧ Q (some (.int 1)) X_63))) ∧ (v_56 = 0 → Q (some (.int (-3))) X_50))))))))) ∧ ((gb v_28 (gI X_22 a_10 0)) = false → Q (some (.int (-3))) X_22)))))) ∧ ((iw x2 0 ((gI X_4 31 0) - 1)) = false → Q (some (.int (-1))) X_4))) ∨ (r = some .null ∧ Lay S X_4 ∧ Q (some (.int (-1))) X_4)))) : Ev E m_ga_later 0 [(0, .ref 0), (1, .int x1), (2, .int x2)] [] X (0, 0) Q := by
  refine ev_aload_n (x := 0) (pc := 0) d_ga_later_0 rfl ?_
  refine ev_iload_n (x := x1) (pc := 1) d_ga_later_1 rfl ?_
  obtain ⟨Qz_1, hc_2, hk_3⟩ := hh
  refine ev_callV (z := m_ga_homeAt) (as := [.int x1]) (rest := []) (pc := 2) d_ga_later_2 (ly_at hX 0 rfl) lt13_11 rfl l_ga_204 i_ga_homeAt v_ga_homeAt o_ga_homeAt rfl rfl (Nat.le_of_ble_eq_true rfl) rfl (Nat.le_of_ble_eq_true rfl) ⟨Nat.le_of_ble_eq_true rfl, Nat.le_of_ble_eq_true rfl⟩ hc_2 (fun r_5 X_4 hq_6 => ?_)
  rcases hk_3 _ _ hq_6 with ⟨a_10, rfl, hb_11, hX_8, h_7⟩ | ⟨rfl, hX_8, h_12⟩
  · show Ev E m_ga_later 5 [(0, .ref 0), (1, .int x1), (2, .int x2)] [.ref a_10] X_4 (0, 0) Q
    refine ev_astore_n (L2 := [(0, .ref 0), (1, .int x1), (2, .int x2), (3, .ref a_10)]) (pc := 5) d_ga_later_5 rfl (Nat.le_of_ble_eq_true rfl) rfl ?_
    refine ev_aload_n (x := a_10) (pc := 6) d_ga_later_6 rfl ?_
    refine ev_ifnull (pc := 7) d_ga_later_7 ?_
    refine ev_aload_n (x := 0) (pc := 10) d_ga_later_10 rfl ?_
    refine ev_getR (pc := 11) d_ga_later_11 f_ga_69 (ly_at hX_8 0 rfl) gg_11 rfl (ly_rf hX_8 0 17 rfl) ?_
    refine ev_iload_n (x := x2) (pc := 14) d_ga_later_14 rfl ?_
    refine ev_callV (z := m_du_hasFitter) (as := [.int x2]) (rest := []) (pc := 15) d_ga_later_15 (ly_at hX_8 31 rfl) lt13_0 rfl l_ga_348 i_du_hasFitter v_du_hasFitter o_du_hasFitter rfl rfl (Nat.le_of_ble_eq_true rfl) rfl (Nat.le_of_ble_eq_true rfl) ⟨Nat.le_of_ble_eq_true rfl, Nat.le_of_ble_eq_true rfl⟩ (s_du_hasFitter hX_8 x2 ) (fun r X1 hq => ?_)
    obtain ⟨rfl, rfl⟩ := hq
    show Ev E m_ga_later 18 [(0, .ref 0), (1, .int x1), (2, .int x2), (3, .ref a_10)] [.int (bz (iw x2 0 ((gI X_4 31 0) - 1)))] X_4 (0, 0) Q
    refine ev_ifz_ne (pc := 18) (tgt := 23) d_ga_later_18 (by decide) (fun c_13 => ?_) (fun c_13 => ?_)
    · have h_14 := h_7.1 c_13
      refine ev_aload_n (x := a_10) (pc := 23) d_ga_later_23 rfl ?_
      refine ev_getJ (v := (gI X_4 a_10 4)) (pc := 24) d_ga_later_24 f_ga_249 hb_11 gg_3 rfl rfl ?_
      refine ev_iconst (v := 2) (pc := 27) d_ga_later_27 kc_i_2 ?_
      refine ev_icmp_ne (pc := 28) (tgt := 48) d_ga_later_28 (by decide) (fun c_16 => ?_) (fun c_16 => ?_)
      · have h_17 := h_14.1 c_16
        refine ev_bipush (v := (-3)) (pc := 48) d_ga_later_48 kc_b_m3 ?_
        exact ev_iret (pc := 50) ⟨Nat.le_of_ble_eq_true rfl, Nat.le_of_ble_eq_true rfl⟩ d_ga_later_50 rfl (vp_nar_int _) h_17
      · have h_18 := h_14.2 c_16
        refine ev_aload_n (x := 0) (pc := 31) d_ga_later_31 rfl ?_
        refine ev_getR (pc := 32) d_ga_later_32 f_ga_62 (ly_at hX_8 0 rfl) gg_11 rfl (ly_rf hX_8 0 15 rfl) ?_
        obtain ⟨Qz_19, hc_20, hk_21⟩ := h_18
        refine ev_callV (z := m_se_changedKnots) (as := []) (rest := []) (pc := 35) d_ga_later_35 (ly_at hX_8 23 rfl) lt13_8 rfl l_ga_333 i_se_changedKnots v_se_changedKnots o_se_changedKnots rfl rfl (Nat.le_of_ble_eq_true rfl) rfl (Nat.le_of_ble_eq_true rfl) ⟨Nat.le_of_ble_eq_true rfl, Nat.le_of_ble_eq_true rfl⟩ hc_20 (fun r_23 X_22 hq_24 => ?_)
        obtain ⟨v_28, rfl, hX_26, hm_27, h_25⟩ := hk_21 _ _ hq_24
        show Ev E m_ga_later 38 [(0, .ref 0), (1, .int x1), (2, .int x2), (3, .ref a_10)] [.int v_28] X_22 (0, 0) Q
        refine ev_aload_n (x := a_10) (pc := 38) d_ga_later_38 rfl ?_
        refine ev_getJ (v := (gI X_22 a_10 0)) (pc := 39) d_ga_later_39 f_ga_240 hm_27 gg_3 rfl rfl ?_
        refine ev_callS (z := m_ga_hasBit) (as := [.int v_28, .int (gI X_22 a_10 0)]) (rest := []) (pc := 42) d_ga_later_42 l_ga_351 i_ga_hasBit o_ga_hasBit rfl rfl (Nat.le_of_ble_eq_true rfl) rfl (Nat.le_of_ble_eq_true rfl) ⟨Nat.le_of_ble_eq_true rfl, Nat.le_of_ble_eq_true rfl⟩ (s_ga_hasBit hX_26 v_28 (gI X_22 a_10 0)) (fun r X1 hq => ?_)
        obtain ⟨rfl, rfl⟩ := hq
        show Ev E m_ga_later 45 [(0, .ref 0), (1, .int x1), (2, .int x2), (3, .ref a_10)] [.int (bz (gb v_28 (gI X_22 a_10 0)))] X_22 (0, 0) Q
        refine ev_ifz_ne (pc := 45) (tgt := 51) d_ga_later_45 (by decide) (fun c_29 => ?_) (fun c_29 => ?_)
        · have h_30 := h_25.1 c_29
          refine ev_aload_n (x := 0) (pc := 51) d_ga_later_51 rfl ?_
          refine ev_getR (pc := 52) d_ga_later_52 f_ga_69 (ly_at hX_26 0 rfl) gg_11 rfl (ly_rf hX_26 0 17 rfl) ?_
          refine ev_iload_n (x := x2) (pc := 55) d_ga_later_55 rfl ?_
          refine ev_aload_n (x := a_10) (pc := 56) d_ga_later_56 rfl ?_
          obtain ⟨r_32, k_33, hq_35, hb_34, hg_36, h_37⟩ := h_30
          refine ev_getR (pc := 57) d_ga_later_57 f_ga_354 hm_27 gg_3 rfl hq_35 ?_
          refine ev_getJ (v := (gI X_22 r_32 5)) (pc := 60) d_ga_later_60 f_ga_358 hb_34 hg_36 rfl rfl ?_
          refine ev_callV (z := m_du_isTrained) (as := [.int x2, .int (gI X_22 r_32 5)]) (rest := []) (pc := 63) d_ga_later_63 (ly_at hX_26 31 rfl) lt13_0 rfl l_ga_361 i_du_isTrained v_du_isTrained o_du_isTrained rfl rfl (Nat.le_of_ble_eq_true rfl) rfl (Nat.le_of_ble_eq_true rfl) ⟨Nat.le_of_ble_eq_true rfl, Nat.le_of_ble_eq_true rfl⟩ (s_du_isTrained hX_26 x2 (gI X_22 r_32 5)  h_37.1) (fun r X1 hq => ?_)
          obtain ⟨rfl, rfl⟩ := hq
          show Ev E m_ga_later 66 [(0, .ref 0), (1, .int x1), (2, .int x2), (3, .ref a_10)] [.int (bz (gb (gI X_22 32 (Int32.toNatClampNeg x2)) (gI X_22 r_32 5)))] X_22 (0, 0) Q
          refine ev_ifz_eq (pc := 66) (tgt := 80) d_ga_later_66 (by decide) (fun c_38 => ?_) (fun c_38 => ?_)
          · have h_39 := h_37.2.1 c_38
            refine ev_bipush (v := (-3)) (pc := 80) d_ga_later_80 kc_b_m3 ?_
            exact ev_iret (pc := 82) ⟨Nat.le_of_ble_eq_true rfl, Nat.le_of_ble_eq_true rfl⟩ d_ga_later_82 rfl (vp_nar_int _) h_39
          · have h_40 := h_37.2.2 c_38
            refine ev_aload_n (x := 0) (pc := 69) d_ga_later_69 rfl ?_
            refine ev_aload_n (x := a_10) (pc := 70) d_ga_later_70 rfl ?_
            obtain ⟨r_41, k_42, hq_44, hb_43, hg_45, h_46⟩ := h_40
            refine ev_getR (pc := 71) d_ga_later_71 f_ga_354 hm_27 gg_3 rfl hq_44 ?_
            obtain ⟨Qz_47, hc_48, hk_49⟩ := h_46
            refine ev_callV (z := m_ga_hasJetsFor) (as := [.ref r_41]) (rest := []) (pc := 74) d_ga_later_74 (ly_at hX_26 0 rfl) lt13_11 rfl l_ga_364 i_ga_hasJetsFor v_ga_hasJetsFor o_ga_hasJetsFor rfl rfl (Nat.le_of_ble_eq_true rfl) rfl (Nat.le_of_ble_eq_true rfl) ⟨Nat.le_of_ble_eq_true rfl, Nat.le_of_ble_eq_true rfl⟩ hc_48 (fun r_51 X_50 hq_52 => ?_)
            obtain ⟨v_56, rfl, hX_54, hm_55, h_53⟩ := hk_49 _ _ hq_52
            show Ev E m_ga_later 77 [(0, .ref 0), (1, .int x1), (2, .int x2), (3, .ref a_10)] [.int v_56] X_50 (0, 0) Q
            refine ev_if_ne (pc := 77) (tgt := 83) d_ga_later_77 (by decide) (fun c_57 => ?_) (fun c_57 => ?_)
            · have h_58 := h_53.1 c_57
              refine ev_aload_n (x := 0) (pc := 83) d_ga_later_83 rfl ?_
              refine ev_aload_n (x := a_10) (pc := 84) d_ga_later_84 rfl ?_
              refine ev_iload_n (x := x2) (pc := 85) d_ga_later_85 rfl ?_
              refine ev_iconst (v := 5) (pc := 86) d_ga_later_86 kc_i_5 ?_
              obtain ⟨Qz_60, hc_61, hk_62⟩ := h_58
              refine ev_callV (z := m_ga_fit) (as := [.ref a_10, .int x2, .int 5]) (rest := []) (pc := 87) d_ga_later_87 (ly_at hX_54 0 rfl) lt13_11 rfl l_ga_368 i_ga_fit v_ga_fit o_ga_fit rfl rfl (Nat.le_of_ble_eq_true rfl) rfl (Nat.le_of_ble_eq_true rfl) ⟨Nat.le_of_ble_eq_true rfl, Nat.le_of_ble_eq_true rfl⟩ hc_61 (fun r_64 X_63 hq_65 => ?_)
              obtain ⟨rfl, hX_67, hm_68, h_66⟩ := hk_62 _ _ hq_65
              show Ev E m_ga_later 90 [(0, .ref 0), (1, .int x1), (2, .int x2), (3, .ref a_10)] [] X_63 (0, 0) Q
              refine ev_iconst (v := 1) (pc := 90) d_ga_later_90 kc_i_1 ?_
              exact ev_iret (pc := 91) ⟨Nat.le_of_ble_eq_true rfl, Nat.le_of_ble_eq_true rfl⟩ d_ga_later_91 rfl (vp_nar_int _) h_66
            · have h_59 := h_53.2 c_57
              refine ev_bipush (v := (-3)) (pc := 80) d_ga_later_80 kc_b_m3 ?_
              exact ev_iret (pc := 82) ⟨Nat.le_of_ble_eq_true rfl, Nat.le_of_ble_eq_true rfl⟩ d_ga_later_82 rfl (vp_nar_int _) h_59
        · have h_31 := h_25.2 c_29
          refine ev_bipush (v := (-3)) (pc := 48) d_ga_later_48 kc_b_m3 ?_
          exact ev_iret (pc := 50) ⟨Nat.le_of_ble_eq_true rfl, Nat.le_of_ble_eq_true rfl⟩ d_ga_later_50 rfl (vp_nar_int _) h_31
    · have h_15 := h_7.2 c_13
      refine ev_iconst (v := (-1)) (pc := 21) d_ga_later_21 kc_i_m1 ?_
      exact ev_iret (pc := 22) ⟨Nat.le_of_ble_eq_true rfl, Nat.le_of_ble_eq_true rfl⟩ d_ga_later_22 rfl (vp_nar_int _) h_15
  · show Ev E m_ga_later 5 [(0, .ref 0), (1, .int x1), (2, .int x2)] [.null] X_4 (0, 0) Q
    refine ev_astore_nN (L2 := [(0, .ref 0), (1, .int x1), (2, .int x2), (3, .null)]) (pc := 5) d_ga_later_5 rfl (Nat.le_of_ble_eq_true rfl) rfl ?_
    refine ev_aload_nN  (pc := 6) d_ga_later_6 rfl ?_
    refine ev_ifnullN (pc := 7) (tgt := 21) d_ga_later_7 (by decide) ?_
    refine ev_iconst (v := (-1)) (pc := 21) d_ga_later_21 kc_i_m1 ?_
    exact ev_iret (pc := 22) ⟨Nat.le_of_ble_eq_true rfl, Nat.le_of_ble_eq_true rfl⟩ d_ga_later_22 rfl (vp_nar_int _) h_12
theorem b_ga_danger_0 {E : gp_E} {S : gp_S} {X : gp_H} {Q : Option Value → gp_H → Prop}  (hX : Lay S X)  (hh : (∃ Qz_1, Ev E m_ne_oldReach 0 [(0, .ref 1)] [] X (0, 0) Qz_1 ∧ ∀ r X_4, Qz_1 r X_4 → ∃ v_9 : Int32, r = some (.int v_9) ∧ Lay S X_4 ∧ (∃ Qz_10, Ev E m_ne_newReach 0 [(0, .ref 1)] [] X_4 (0, 0) Qz_10 ∧ ∀ r X_13, Qz_10 r X_13 → ∃ v_18 : Int32, r = some (.int v_18) ∧ Lay S X_13 ∧ Ev E m_ga_danger 21 [(0, .ref 0), (1, .int v_9), (2, .int v_18), (3, .int 0), (4, .int 0)] [] X_13 (0, 0) Q))) : Ev E m_ga_danger 0 [(0, .ref 0)] [] X (0, 0) Q := by
  refine ev_aload_n (x := 0) (pc := 0) d_ga_danger_0 rfl ?_
  refine ev_getR (pc := 1) d_ga_danger_1 f_ga_10 (ly_at hX 0 rfl) gg_11 rfl (ly_rf hX 0 0 rfl) ?_
  obtain ⟨Qz_1, hc_2, hk_3⟩ := hh
  refine ev_callV (z := m_ne_oldReach) (as := []) (rest := []) (pc := 4) d_ga_danger_4 (ly_at hX 1 rfl) lt13_5 rfl l_ga_160 i_ne_oldReach v_ne_oldReach o_ne_oldReach rfl rfl (Nat.le_of_ble_eq_true rfl) rfl (Nat.le_of_ble_eq_true rfl) ⟨Nat.le_of_ble_eq_true rfl, Nat.le_of_ble_eq_true rfl⟩ hc_2 (fun r_5 X_4 hq_6 => ?_)
  obtain ⟨v_9, rfl, hX_8, h_7⟩ := hk_3 _ _ hq_6
  show Ev E m_ga_danger 7 [(0, .ref 0)] [.int v_9] X_4 (0, 0) Q
  refine ev_istore_n (L2 := [(0, .ref 0), (1, .int v_9)]) (pc := 7) d_ga_danger_7 rfl (Nat.le_of_ble_eq_true rfl) rfl ?_
  refine ev_aload_n (x := 0) (pc := 8) d_ga_danger_8 rfl ?_
  refine ev_getR (pc := 9) d_ga_danger_9 f_ga_10 (ly_at hX_8 0 rfl) gg_11 rfl (ly_rf hX_8 0 0 rfl) ?_
  obtain ⟨Qz_10, hc_11, hk_12⟩ := h_7
  refine ev_callV (z := m_ne_newReach) (as := []) (rest := []) (pc := 12) d_ga_danger_12 (ly_at hX_8 1 rfl) lt13_5 rfl l_ga_164 i_ne_newReach v_ne_newReach o_ne_newReach rfl rfl (Nat.le_of_ble_eq_true rfl) rfl (Nat.le_of_ble_eq_true rfl) ⟨Nat.le_of_ble_eq_true rfl, Nat.le_of_ble_eq_true rfl⟩ hc_11 (fun r_14 X_13 hq_15 => ?_)
  obtain ⟨v_18, rfl, hX_17, h_16⟩ := hk_12 _ _ hq_15
  show Ev E m_ga_danger 15 [(0, .ref 0), (1, .int v_9)] [.int v_18] X_13 (0, 0) Q
  refine ev_istore_n (L2 := [(0, .ref 0), (1, .int v_9), (2, .int v_18)]) (pc := 15) d_ga_danger_15 rfl (Nat.le_of_ble_eq_true rfl) rfl ?_
  refine ev_iconst (v := 0) (pc := 16) d_ga_danger_16 kc_i_0 ?_
  refine ev_istore_n (L2 := [(0, .ref 0), (1, .int v_9), (2, .int v_18), (3, .int 0)]) (pc := 17) d_ga_danger_17 rfl (Nat.le_of_ble_eq_true rfl) rfl ?_
  refine ev_iconst (v := 0) (pc := 18) d_ga_danger_18 kc_i_0 ?_
  refine ev_istore (L2 := [(0, .ref 0), (1, .int v_9), (2, .int v_18), (3, .int 0), (4, .int 0)]) (pc := 19) d_ga_danger_19 rfl (Nat.le_of_ble_eq_true rfl) rfl ?_
  exact h_16
theorem b_ga_danger_21 {E : gp_E} {S : gp_S} {X : gp_H} {Q : Option Value → gp_H → Prop} {x1 : Int32} {x2 : Int32} {x3 : Int32} {x4 : Int32} (hX : Lay S X)  (hh : (((gI X 0 6) ≤ x4 → Q (some (.int x3)) X) ∧ (¬ (gI X 0 6) ≤ x4 → (vp_in x4 40 ∧ ∃ r_4 : Nat, X.2.2.1 16 (Int32.toNatClampNeg x4) = some r_4 ∧ gp_at X r_4 (3, 0) ∧ (∃ Qz_9, Ev E m_ga_gasAt 0 [(0, .int (gI X r_4 0)), (1, .int x1), (2, .int x2)] [] X (0, 0) Qz_9 ∧ ∀ r X_12, Qz_9 r X_12 → ∃ v_17 : Int32, r = some (.int v_17) ∧ Lay S X_12 ∧ (vp_in x4 40 ∧ ∃ r_18 : Nat, X_12.2.2.1 16 (Int32.toNatClampNeg x4) = some r_18 ∧ gp_at X_12 r_18 (3, 0) ∧ ((¬ (gI X_12 r_18 4) = 0 → Ev E m_ga_danger 71 [(0, .ref 0), (1, .int x1), (2, .int x2), (3, .int x3), (4, .int x4), (5, .int v_17)] [] X_12 (0, 0) Q) ∧ ((gI X_12 r_18 4) = 0 → (((v_17 &&& 2) = 0 → Ev E m_ga_danger 71 [(0, .ref 0), (1, .int x1), (2, .int x2), (3, .int x3), (4, .int x4), (5, .int v_17)] [] X_12 (0, 0) Q) ∧ (¬ (v_17 &&& 2) = 0 → Ev E m_ga_danger 72 [(0, .ref 0), (1, .int x1), (2, .int x2), (3, .int x3), (4, .int x4), (5, .int v_17)] [.int 1] X_12 (0, 0) Q)))))))))) : Ev E m_ga_danger 21 [(0, .ref 0), (1, .int x1), (2, .int x2), (3, .int x3), (4, .int x4)] [] X (0, 0) Q := by
  refine ev_iload (x := x4) (pc := 21) d_ga_danger_21 rfl ?_
  refine ev_aload_n (x := 0) (pc := 23) d_ga_danger_23 rfl ?_
  refine ev_getJ (v := (gI X 0 6)) (pc := 24) d_ga_danger_24 f_ga_198 (ly_at hX 0 rfl) gg_11 rfl rfl ?_
  refine ev_icmp_ge (pc := 27) (tgt := 121) d_ga_danger_27 (by decide) (fun c_1 => ?_) (fun c_1 => ?_)
  · have h_2 := hh.1 c_1
    refine ev_iload_n (x := x3) (pc := 121) d_ga_danger_121 rfl ?_
    exact ev_iret (pc := 122) ⟨Nat.le_of_ble_eq_true rfl, Nat.le_of_ble_eq_true rfl⟩ d_ga_danger_122 rfl (vp_nar_int _) h_2
  · have h_3 := hh.2 c_1
    refine ev_aload_n (x := 0) (pc := 30) d_ga_danger_30 rfl ?_
    refine ev_getR (pc := 31) d_ga_danger_31 f_ga_35 (ly_at hX 0 rfl) gg_11 rfl (ly_rf hX 0 5 rfl) ?_
    refine ev_iload (x := x4) (pc := 34) d_ga_danger_34 rfl ?_
    obtain ⟨hv_7, r_4, hq_6, hb_5, h_8⟩ := h_3
    refine ev_ald4 (pc := 36) d_ga_danger_36 (ly_at hX 16 rfl) hv_7 hq_6 ?_
    refine ev_getJ (v := (gI X r_4 0)) (pc := 37) d_ga_danger_37 f_ga_240 hb_5 gg_3 rfl rfl ?_
    refine ev_iload_n (x := x1) (pc := 40) d_ga_danger_40 rfl ?_
    refine ev_iload_n (x := x2) (pc := 41) d_ga_danger_41 rfl ?_
    obtain ⟨Qz_9, hc_10, hk_11⟩ := h_8
    refine ev_callS (z := m_ga_gasAt) (as := [.int (gI X r_4 0), .int x1, .int x2]) (rest := []) (pc := 42) d_ga_danger_42 l_ga_167 i_ga_gasAt o_ga_gasAt rfl rfl (Nat.le_of_ble_eq_true rfl) rfl (Nat.le_of_ble_eq_true rfl) ⟨Nat.le_of_ble_eq_true rfl, Nat.le_of_ble_eq_true rfl⟩ hc_10 (fun r_13 X_12 hq_14 => ?_)
    obtain ⟨v_17, rfl, hX_16, h_15⟩ := hk_11 _ _ hq_14
    show Ev E m_ga_danger 45 [(0, .ref 0), (1, .int x1), (2, .int x2), (3, .int x3), (4, .int x4)] [.int v_17] X_12 (0, 0) Q
    refine ev_istore (L2 := [(0, .ref 0), (1, .int x1), (2, .int x2), (3, .int x3), (4, .int x4), (5, .int v_17)]) (pc := 45) d_ga_danger_45 rfl (Nat.le_of_ble_eq_true rfl) rfl ?_
    refine ev_aload_n (x := 0) (pc := 47) d_ga_danger_47 rfl ?_
    refine ev_getR (pc := 48) d_ga_danger_48 f_ga_35 (ly_at hX_16 0 rfl) gg_11 rfl (ly_rf hX_16 0 5 rfl) ?_
    refine ev_iload (x := x4) (pc := 51) d_ga_danger_51 rfl ?_
    obtain ⟨hv_21, r_18, hq_20, hb_19, h_22⟩ := h_15
    refine ev_ald4 (pc := 53) d_ga_danger_53 (ly_at hX_16 16 rfl) hv_21 hq_20 ?_
    refine ev_getJ (v := (gI X_12 r_18 4)) (pc := 54) d_ga_danger_54 f_ga_249 hb_19 gg_3 rfl rfl ?_
    refine ev_if_ne (pc := 57) (tgt := 71) d_ga_danger_57 (by decide) (fun c_23 => ?_) (fun c_23 => ?_)
    · have h_24 := h_22.1 c_23
      exact h_24
    · have h_25 := h_22.2 c_23
      refine ev_iload (x := v_17) (pc := 60) d_ga_danger_60 rfl ?_
      refine ev_iconst (v := 2) (pc := 62) d_ga_danger_62 kc_i_2 ?_
      refine ev_iand (pc := 63) d_ga_danger_63 ?_
      refine ev_if_eq (pc := 64) (tgt := 71) d_ga_danger_64 (by decide) (fun c_26 => ?_) (fun c_26 => ?_)
      · have h_27 := h_25.1 c_26
        exact h_27
      · have h_28 := h_25.2 c_26
        refine ev_iconst (v := 1) (pc := 67) d_ga_danger_67 kc_i_1 ?_
        refine ev_goto (pc := 68) (tgt := 72) d_ga_danger_68 (by decide) ?_
        exact h_28
theorem b_ga_danger_71 {E : gp_E} {S : gp_S} {X : gp_H} {Q : Option Value → gp_H → Prop} {x1 : Int32} {x2 : Int32} {x3 : Int32} {x4 : Int32} {x5 : Int32} (hX : Lay S X)  (hh : Ev E m_ga_danger 72 [(0, .ref 0), (1, .int x1), (2, .int x2), (3, .int x3), (4, .int x4), (5, .int x5)] [.int 0] X (0, 0) Q) : Ev E m_ga_danger 71 [(0, .ref 0), (1, .int x1), (2, .int x2), (3, .int x3), (4, .int x4), (5, .int x5)] [] X (0, 0) Q := by
  refine ev_iconst (v := 0) (pc := 71) d_ga_danger_71 kc_i_0 ?_
  exact hh
theorem b_ga_danger_72 {E : gp_E} {S : gp_S} {X : gp_H} {Q : Option Value → gp_H → Prop} {x1 : Int32} {x2 : Int32} {x3 : Int32} {x4 : Int32} {x5 : Int32} {t0 : Int32} (hX : Lay S X)  (hh : (vp_in x4 40 ∧ ∃ r_1 : Nat, X.2.2.1 16 (Int32.toNatClampNeg x4) = some r_1 ∧ gp_at X r_1 (3, 0) ∧ ((¬ (gI X r_1 4) = 1 → Ev E m_ga_danger 99 [(0, .ref 0), (1, .int x1), (2, .int x2), (3, .int x3), (4, .int x4), (5, .int x5), (6, .int t0)] [] X (0, 0) Q) ∧ ((gI X r_1 4) = 1 → (((x5 &&& 1) = 0 → Ev E m_ga_danger 99 [(0, .ref 0), (1, .int x1), (2, .int x2), (3, .int x3), (4, .int x4), (5, .int x5), (6, .int t0)] [] X (0, 0) Q) ∧ (¬ (x5 &&& 1) = 0 → Ev E m_ga_danger 100 [(0, .ref 0), (1, .int x1), (2, .int x2), (3, .int x3), (4, .int x4), (5, .int x5), (6, .int t0)] [.int 1] X (0, 0) Q)))))) : Ev E m_ga_danger 72 [(0, .ref 0), (1, .int x1), (2, .int x2), (3, .int x3), (4, .int x4), (5, .int x5)] [.int t0] X (0, 0) Q := by
  refine ev_istore (L2 := [(0, .ref 0), (1, .int x1), (2, .int x2), (3, .int x3), (4, .int x4), (5, .int x5), (6, .int t0)]) (pc := 72) d_ga_danger_72 rfl (Nat.le_of_ble_eq_true rfl) rfl ?_
  refine ev_aload_n (x := 0) (pc := 74) d_ga_danger_74 rfl ?_
  refine ev_getR (pc := 75) d_ga_danger_75 f_ga_35 (ly_at hX 0 rfl) gg_11 rfl (ly_rf hX 0 5 rfl) ?_
  refine ev_iload (x := x4) (pc := 78) d_ga_danger_78 rfl ?_
  obtain ⟨hv_4, r_1, hq_3, hb_2, h_5⟩ := hh
  refine ev_ald4 (pc := 80) d_ga_danger_80 (ly_at hX 16 rfl) hv_4 hq_3 ?_
  refine ev_getJ (v := (gI X r_1 4)) (pc := 81) d_ga_danger_81 f_ga_249 hb_2 gg_3 rfl rfl ?_
  refine ev_iconst (v := 1) (pc := 84) d_ga_danger_84 kc_i_1 ?_
  refine ev_icmp_ne (pc := 85) (tgt := 99) d_ga_danger_85 (by decide) (fun c_6 => ?_) (fun c_6 => ?_)
  · have h_7 := h_5.1 c_6
    exact h_7
  · have h_8 := h_5.2 c_6
    refine ev_iload (x := x5) (pc := 88) d_ga_danger_88 rfl ?_
    refine ev_iconst (v := 1) (pc := 90) d_ga_danger_90 kc_i_1 ?_
    refine ev_iand (pc := 91) d_ga_danger_91 ?_
    refine ev_if_eq (pc := 92) (tgt := 99) d_ga_danger_92 (by decide) (fun c_9 => ?_) (fun c_9 => ?_)
    · have h_10 := h_8.1 c_9
      exact h_10
    · have h_11 := h_8.2 c_9
      refine ev_iconst (v := 1) (pc := 95) d_ga_danger_95 kc_i_1 ?_
      refine ev_goto (pc := 96) (tgt := 100) d_ga_danger_96 (by decide) ?_
      exact h_11
theorem b_ga_danger_99 {E : gp_E} {S : gp_S} {X : gp_H} {Q : Option Value → gp_H → Prop} {x1 : Int32} {x2 : Int32} {x3 : Int32} {x4 : Int32} {x5 : Int32} {x6 : Int32} (hX : Lay S X)  (hh : Ev E m_ga_danger 100 [(0, .ref 0), (1, .int x1), (2, .int x2), (3, .int x3), (4, .int x4), (5, .int x5), (6, .int x6)] [.int 0] X (0, 0) Q) : Ev E m_ga_danger 99 [(0, .ref 0), (1, .int x1), (2, .int x2), (3, .int x3), (4, .int x4), (5, .int x5), (6, .int x6)] [] X (0, 0) Q := by
  refine ev_iconst (v := 0) (pc := 99) d_ga_danger_99 kc_i_0 ?_
  exact hh
theorem b_ga_danger_100 {E : gp_E} {S : gp_S} {X : gp_H} {Q : Option Value → gp_H → Prop} {x1 : Int32} {x2 : Int32} {x3 : Int32} {x4 : Int32} {x5 : Int32} {x6 : Int32} {t0 : Int32} (hX : Lay S X)  (hh : ((¬ x6 = 0 → Ev E m_ga_danger 21 [(0, .ref 0), (1, .int x1), (2, .int x2), (3, .int (x3 + 1)), (4, .int (x4 + 1))] [] X (0, 0) Q) ∧ (x6 = 0 → ((t0 = 0 → Ev E m_ga_danger 21 [(0, .ref 0), (1, .int x1), (2, .int x2), (3, .int x3), (4, .int (x4 + 1))] [] X (0, 0) Q) ∧ (¬ t0 = 0 → Ev E m_ga_danger 21 [(0, .ref 0), (1, .int x1), (2, .int x2), (3, .int (x3 + 1)), (4, .int (x4 + 1))] [] X (0, 0) Q))))) : Ev E m_ga_danger 100 [(0, .ref 0), (1, .int x1), (2, .int x2), (3, .int x3), (4, .int x4), (5, .int x5), (6, .int x6)] [.int t0] X (0, 0) Q := by
  refine ev_istore (L2 := [(0, .ref 0), (1, .int x1), (2, .int x2), (3, .int x3), (4, .int x4), (5, .int x5), (6, .int x6), (7, .int t0)]) (pc := 100) d_ga_danger_100 rfl (Nat.le_of_ble_eq_true rfl) rfl ?_
  refine ev_iload (x := x6) (pc := 102) d_ga_danger_102 rfl ?_
  refine ev_if_ne (pc := 104) (tgt := 112) d_ga_danger_104 (by decide) (fun c_1 => ?_) (fun c_1 => ?_)
  · have h_2 := hh.1 c_1
    refine ev_iinc (v := (x3 + 1)) (L2 := [(0, .ref 0), (1, .int x1), (2, .int x2), (3, .int (x3 + 1)), (4, .int x4), (5, .int x5), (6, .int x6), (7, .int t0)]) (pc := 112) d_ga_danger_112 rfl (by rw [kc_i_1]) rfl (Nat.le_of_ble_eq_true rfl) rfl ?_
    refine ev_iinc (v := (x4 + 1)) (L2 := [(0, .ref 0), (1, .int x1), (2, .int x2), (3, .int (x3 + 1)), (4, .int (x4 + 1)), (5, .int x5), (6, .int x6), (7, .int t0)]) (pc := 115) d_ga_danger_115 rfl (by rw [kc_i_1]) rfl (Nat.le_of_ble_eq_true rfl) rfl ?_
    refine ev_goto (pc := 118) (tgt := 21) d_ga_danger_118 (by decide) ?_
    exact ev_sub [(0, .ref 0), (1, .int x1), (2, .int x2), (3, .int (x3 + 1)), (4, .int (x4 + 1))] (List.forall_mem_cons.mpr ⟨rfl, (List.forall_mem_cons.mpr ⟨rfl, (List.forall_mem_cons.mpr ⟨rfl, (List.forall_mem_cons.mpr ⟨rfl, (List.forall_mem_cons.mpr ⟨rfl, (fun _ h => nomatch h)⟩)⟩)⟩)⟩)⟩) h_2
  · have h_3 := hh.2 c_1
    refine ev_iload (x := t0) (pc := 107) d_ga_danger_107 rfl ?_
    refine ev_if_eq (pc := 109) (tgt := 115) d_ga_danger_109 (by decide) (fun c_4 => ?_) (fun c_4 => ?_)
    · have h_5 := h_3.1 c_4
      refine ev_iinc (v := (x4 + 1)) (L2 := [(0, .ref 0), (1, .int x1), (2, .int x2), (3, .int x3), (4, .int (x4 + 1)), (5, .int x5), (6, .int x6), (7, .int t0)]) (pc := 115) d_ga_danger_115 rfl (by rw [kc_i_1]) rfl (Nat.le_of_ble_eq_true rfl) rfl ?_
      refine ev_goto (pc := 118) (tgt := 21) d_ga_danger_118 (by decide) ?_
      exact ev_sub [(0, .ref 0), (1, .int x1), (2, .int x2), (3, .int x3), (4, .int (x4 + 1))] (List.forall_mem_cons.mpr ⟨rfl, (List.forall_mem_cons.mpr ⟨rfl, (List.forall_mem_cons.mpr ⟨rfl, (List.forall_mem_cons.mpr ⟨rfl, (List.forall_mem_cons.mpr ⟨rfl, (fun _ h => nomatch h)⟩)⟩)⟩)⟩)⟩) h_5
    · have h_6 := h_3.2 c_4
      refine ev_iinc (v := (x3 + 1)) (L2 := [(0, .ref 0), (1, .int x1), (2, .int x2), (3, .int (x3 + 1)), (4, .int x4), (5, .int x5), (6, .int x6), (7, .int t0)]) (pc := 112) d_ga_danger_112 rfl (by rw [kc_i_1]) rfl (Nat.le_of_ble_eq_true rfl) rfl ?_
      refine ev_iinc (v := (x4 + 1)) (L2 := [(0, .ref 0), (1, .int x1), (2, .int x2), (3, .int (x3 + 1)), (4, .int (x4 + 1)), (5, .int x5), (6, .int x6), (7, .int t0)]) (pc := 115) d_ga_danger_115 rfl (by rw [kc_i_1]) rfl (Nat.le_of_ble_eq_true rfl) rfl ?_
      refine ev_goto (pc := 118) (tgt := 21) d_ga_danger_118 (by decide) ?_
      exact ev_sub [(0, .ref 0), (1, .int x1), (2, .int x2), (3, .int (x3 + 1)), (4, .int (x4 + 1))] (List.forall_mem_cons.mpr ⟨rfl, (List.forall_mem_cons.mpr ⟨rfl, (List.forall_mem_cons.mpr ⟨rfl, (List.forall_mem_cons.mpr ⟨rfl, (List.forall_mem_cons.mpr ⟨rfl, (fun _ h => nomatch h)⟩)⟩)⟩)⟩)⟩) h_6
theorem b_ga_smell_0 {E : gp_E} {S : gp_S} {X : gp_H} {Q : Option Value → gp_H → Prop} {x1 : Int32} {x2 : Int32} (hX : Lay S X)  (hh : (∃ Qz_1, Ev E m_ga_homeAt 0 [(0, .ref 0), (1, .int x1)] [] X (0, 0) Qz_1 ∧ ∀ r X_4, Qz_1 r X_4 → ((∃ a_10 : Nat, r = some (.ref a_10) ∧ gp_at X_4 a_10 (3, 0) ∧ Lay S X_4 ∧ (∃ Qz_13, Ev E m_du_latestMinute 0 [(0, .ref 31)] [] X_4 (0, 0) Qz_13 ∧ ∀ r X_16, Qz_13 r X_16 → ∃ v_22 : Int32, r = some (.int v_22) ∧ Lay S X_16 ∧ gp_at X_16 a_10 (3, 0) ∧ (((iw x2 v_22 9999) = true → (((gI X_16 31 5) < 30 → (∃ Qz_29, Ev E m_du_addSmell 0 [(0, .ref 31), (1, .ref 1), (2, .int x1), (3, .int (gI X_16 a_10 0)), (4, .int x2)] [] X_16 (0, 0) Qz_29 ∧ ∀ r X_32, Qz_29 r X_32 → ∃ v_38 : Int32, r = some (.int v_38) ∧ Lay S X_32 ∧ gp_at X_32 a_10 (3, 0) ∧ Q (some (.int v_38)) X_32)) ∧ (¬ (gI X_16 31 5) < 30 → Q (some (.int (-4))) X_16))) ∧ ((iw x2 v_22 9999) = false → Q (some (.int (-2))) X_16)))) ∨ (r = some .null ∧ Lay S X_4 ∧ Q (some (.int (-1))) X_4)))) : Ev E m_ga_smell 0 [(0, .ref 0), (1, .int x1), (2, .int x2)] [] X (0, 0) Q := by
  refine ev_aload_n (x := 0) (pc := 0) d_ga_smell_0 rfl ?_
  refine ev_iload_n (x := x1) (pc := 1) d_ga_smell_1 rfl ?_
  obtain ⟨Qz_1, hc_2, hk_3⟩ := hh
  refine ev_callV (z := m_ga_homeAt) (as := [.int x1]) (rest := []) (pc := 2) d_ga_smell_2 (ly_at hX 0 rfl) lt13_11 rfl l_ga_204 i_ga_homeAt v_ga_homeAt o_ga_homeAt rfl rfl (Nat.le_of_ble_eq_true rfl) rfl (Nat.le_of_ble_eq_true rfl) ⟨Nat.le_of_ble_eq_true rfl, Nat.le_of_ble_eq_true rfl⟩ hc_2 (fun r_5 X_4 hq_6 => ?_)
  rcases hk_3 _ _ hq_6 with ⟨a_10, rfl, hb_11, hX_8, h_7⟩ | ⟨rfl, hX_8, h_12⟩
  · show Ev E m_ga_smell 5 [(0, .ref 0), (1, .int x1), (2, .int x2)] [.ref a_10] X_4 (0, 0) Q
    refine ev_astore_n (L2 := [(0, .ref 0), (1, .int x1), (2, .int x2), (3, .ref a_10)]) (pc := 5) d_ga_smell_5 rfl (Nat.le_of_ble_eq_true rfl) rfl ?_
    refine ev_aload_n (x := a_10) (pc := 6) d_ga_smell_6 rfl ?_
    refine ev_ifnonnull (pc := 7) (tgt := 12) d_ga_smell_7 (by decide) ?_
    refine ev_iload_n (x := x2) (pc := 12) d_ga_smell_12 rfl ?_
    refine ev_aload_n (x := 0) (pc := 13) d_ga_smell_13 rfl ?_
    refine ev_getR (pc := 14) d_ga_smell_14 f_ga_69 (ly_at hX_8 0 rfl) gg_11 rfl (ly_rf hX_8 0 17 rfl) ?_
    obtain ⟨Qz_13, hc_14, hk_15⟩ := h_7
    refine ev_callV (z := m_du_latestMinute) (as := []) (rest := [.int x2]) (pc := 17) d_ga_smell_17 (ly_at hX_8 31 rfl) lt13_0 rfl l_ga_372 i_du_latestMinute v_du_latestMinute o_du_latestMinute rfl rfl (Nat.le_of_ble_eq_true rfl) rfl (Nat.le_of_ble_eq_true rfl) ⟨Nat.le_of_ble_eq_true rfl, Nat.le_of_ble_eq_true rfl⟩ hc_14 (fun r_17 X_16 hq_18 => ?_)
    obtain ⟨v_22, rfl, hX_20, hm_21, h_19⟩ := hk_15 _ _ hq_18
    show Ev E m_ga_smell 20 [(0, .ref 0), (1, .int x1), (2, .int x2), (3, .ref a_10)] [.int v_22, .int x2] X_16 (0, 0) Q
    refine ev_sipush (v := 9999) (pc := 20) d_ga_smell_20 kc_s_9999 ?_
    refine ev_callS (z := m_ga_isWithin) (as := [.int x2, .int v_22, .int 9999]) (rest := []) (pc := 23) d_ga_smell_23 l_ga_128 i_ga_isWithin o_ga_isWithin rfl rfl (Nat.le_of_ble_eq_true rfl) rfl (Nat.le_of_ble_eq_true rfl) ⟨Nat.le_of_ble_eq_true rfl, Nat.le_of_ble_eq_true rfl⟩ (s_ga_isWithin hX_20 x2 v_22 9999) (fun r X1 hq => ?_)
    obtain ⟨rfl, rfl⟩ := hq
    show Ev E m_ga_smell 26 [(0, .ref 0), (1, .int x1), (2, .int x2), (3, .ref a_10)] [.int (bz (iw x2 v_22 9999))] X_16 (0, 0) Q
    refine ev_ifz_ne (pc := 26) (tgt := 32) d_ga_smell_26 (by decide) (fun c_23 => ?_) (fun c_23 => ?_)
    · have h_24 := h_19.1 c_23
      refine ev_aload_n (x := 0) (pc := 32) d_ga_smell_32 rfl ?_
      refine ev_getR (pc := 33) d_ga_smell_33 f_ga_69 (ly_at hX_20 0 rfl) gg_11 rfl (ly_rf hX_20 0 17 rfl) ?_
      refine ev_getJ (v := (gI X_16 31 5)) (pc := 36) d_ga_smell_36 f_ga_375 (ly_at hX_20 31 rfl) gg_0 rfl rfl ?_
      refine ev_bipush (v := 30) (pc := 39) d_ga_smell_39 kc_b_30 ?_
      refine ev_icmp_lt (pc := 41) (tgt := 47) d_ga_smell_41 (by decide) (fun c_26 => ?_) (fun c_26 => ?_)
      · have h_27 := h_24.1 c_26
        refine ev_aload_n (x := 0) (pc := 47) d_ga_smell_47 rfl ?_
        refine ev_getR (pc := 48) d_ga_smell_48 f_ga_69 (ly_at hX_20 0 rfl) gg_11 rfl (ly_rf hX_20 0 17 rfl) ?_
        refine ev_aload_n (x := 0) (pc := 51) d_ga_smell_51 rfl ?_
        refine ev_getR (pc := 52) d_ga_smell_52 f_ga_10 (ly_at hX_20 0 rfl) gg_11 rfl (ly_rf hX_20 0 0 rfl) ?_
        refine ev_iload_n (x := x1) (pc := 55) d_ga_smell_55 rfl ?_
        refine ev_aload_n (x := a_10) (pc := 56) d_ga_smell_56 rfl ?_
        refine ev_getJ (v := (gI X_16 a_10 0)) (pc := 57) d_ga_smell_57 f_ga_240 hm_21 gg_3 rfl rfl ?_
        refine ev_iload_n (x := x2) (pc := 60) d_ga_smell_60 rfl ?_
        obtain ⟨Qz_29, hc_30, hk_31⟩ := h_27
        refine ev_callV (z := m_du_addSmell) (as := [.ref 1, .int x1, .int (gI X_16 a_10 0), .int x2]) (rest := []) (pc := 61) d_ga_smell_61 (ly_at hX_20 31 rfl) lt13_0 rfl l_ga_378 i_du_addSmell v_du_addSmell o_du_addSmell rfl rfl (Nat.le_of_ble_eq_true rfl) rfl (Nat.le_of_ble_eq_true rfl) ⟨Nat.le_of_ble_eq_true rfl, Nat.le_of_ble_eq_true rfl⟩ hc_30 (fun r_33 X_32 hq_34 => ?_)
        obtain ⟨v_38, rfl, hX_36, hm_37, h_35⟩ := hk_31 _ _ hq_34
        show Ev E m_ga_smell 64 [(0, .ref 0), (1, .int x1), (2, .int x2), (3, .ref a_10)] [.int v_38] X_32 (0, 0) Q
        exact ev_iret (pc := 64) ⟨Nat.le_of_ble_eq_true rfl, Nat.le_of_ble_eq_true rfl⟩ d_ga_smell_64 rfl (vp_nar_int _) h_35
      · have h_28 := h_24.2 c_26
        refine ev_bipush (v := (-4)) (pc := 44) d_ga_smell_44 kc_b_m4 ?_
        exact ev_iret (pc := 46) ⟨Nat.le_of_ble_eq_true rfl, Nat.le_of_ble_eq_true rfl⟩ d_ga_smell_46 rfl (vp_nar_int _) h_28
    · have h_25 := h_19.2 c_23
      refine ev_bipush (v := (-2)) (pc := 29) d_ga_smell_29 kc_b_m2 ?_
      exact ev_iret (pc := 31) ⟨Nat.le_of_ble_eq_true rfl, Nat.le_of_ble_eq_true rfl⟩ d_ga_smell_31 rfl (vp_nar_int _) h_25
  · show Ev E m_ga_smell 5 [(0, .ref 0), (1, .int x1), (2, .int x2)] [.null] X_4 (0, 0) Q
    refine ev_astore_nN (L2 := [(0, .ref 0), (1, .int x1), (2, .int x2), (3, .null)]) (pc := 5) d_ga_smell_5 rfl (Nat.le_of_ble_eq_true rfl) rfl ?_
    refine ev_aload_nN  (pc := 6) d_ga_smell_6 rfl ?_
    refine ev_ifnonnullN (pc := 7) d_ga_smell_7 ?_
    refine ev_iconst (v := (-1)) (pc := 10) d_ga_smell_10 kc_i_m1 ?_
    exact ev_iret (pc := 11) ⟨Nat.le_of_ble_eq_true rfl, Nat.le_of_ble_eq_true rfl⟩ d_ga_smell_11 rfl (vp_nar_int _) h_12
theorem b_ga_smellOf_0 {E : gp_E} {S : gp_S} {X : gp_H} {Q : Option Value → gp_H → Prop} {x1 : Int32} {x2 : Int32} (hX : Lay S X)  (hh : (((iw x1 0 ((gI X 31 5) - 1)) = true → (((x2.toInt < 0 ∨ 4 < x2.toInt) → Q (some (.int (-5))) X) ∧ (x2 = 0 → (vp_in x1 30 ∧ Q (some (.int (gI X 36 (Int32.toNatClampNeg x1)))) X)) ∧ (x2 = 1 → (vp_in x1 30 ∧ Q (some (.int (gI X 37 (Int32.toNatClampNeg x1)))) X)) ∧ (x2 = 2 → (vp_in x1 30 ∧ Q (some (.int (gI X 38 (Int32.toNatClampNeg x1)))) X)) ∧ (x2 = 3 → (vp_in x1 30 ∧ Q (some (.int (gI X 39 (Int32.toNatClampNeg x1)))) X)) ∧ (x2 = 4 → (∃ Qz_10, Ev E m_du_isLate 0 [(0, .ref 31), (1, .int x1)] [] X (0, 0) Qz_10 ∧ ∀ r X_13, Qz_10 r X_13 → ∃ v_18 : Int32, r = some (.int v_18) ∧ Lay S X_13 ∧ Q (some (.int (bz (!decide (v_18 = 0))))) X_13)))) ∧ ((iw x1 0 ((gI X 31 5) - 1)) = false → Q (some (.int (-5))) X))) : Ev E m_ga_smellOf 0 [(0, .ref 0), (1, .int x1), (2, .int x2)] [] X (0, 0) Q := by
  refine ev_aload_n (x := 0) (pc := 0) d_ga_smellOf_0 rfl ?_
  refine ev_getR (pc := 1) d_ga_smellOf_1 f_ga_69 (ly_at hX 0 rfl) gg_11 rfl (ly_rf hX 0 17 rfl) ?_
  refine ev_iload_n (x := x1) (pc := 4) d_ga_smellOf_4 rfl ?_
  refine ev_callV (z := m_du_hasSmell) (as := [.int x1]) (rest := []) (pc := 5) d_ga_smellOf_5 (ly_at hX 31 rfl) lt13_0 rfl l_ga_382 i_du_hasSmell v_du_hasSmell o_du_hasSmell rfl rfl (Nat.le_of_ble_eq_true rfl) rfl (Nat.le_of_ble_eq_true rfl) ⟨Nat.le_of_ble_eq_true rfl, Nat.le_of_ble_eq_true rfl⟩ (s_du_hasSmell hX x1 ) (fun r X1 hq => ?_)
  obtain ⟨rfl, rfl⟩ := hq
  show Ev E m_ga_smellOf 8 [(0, .ref 0), (1, .int x1), (2, .int x2)] [.int (bz (iw x1 0 ((gI X 31 5) - 1)))] X (0, 0) Q
  refine ev_ifz_ne (pc := 8) (tgt := 14) d_ga_smellOf_8 (by decide) (fun c_1 => ?_) (fun c_1 => ?_)
  · have h_2 := hh.1 c_1
    refine ev_iload_n (x := x2) (pc := 14) d_ga_smellOf_14 rfl ?_
    rcases gp_tab (lo := 0) (n := 5) x2 with c_19 | ⟨k, hk, c_19⟩
    · have h_4 := h_2.1 (by omega)
      refine ev_tableOut (pc := 15) (tgt := 100) d_ga_smellOf_15 (by omega) (by decide) ?_
      refine ev_bipush (v := (-5)) (pc := 100) d_ga_smellOf_100 kc_b_m5 ?_
      exact ev_iret (pc := 102) ⟨Nat.le_of_ble_eq_true rfl, Nat.le_of_ble_eq_true rfl⟩ d_ga_smellOf_102 rfl (vp_nar_int _) h_4
    · match k, hk, c_19 with
      | 0, _, c_19 =>
        have c_19e : x2 = 0 := gp_eqi (c_19.trans (by decide : (0 : Int) + ((0 : Nat) : Int) = 0)) (by decide)
        have h_5 := h_2.2.1 c_19e
        refine ev_tableIn (pc := 15) (off := 33) (tgt := 48) d_ga_smellOf_15 (by rw [c_19e]; decide) (by rw [c_19e]; decide) (by rw [c_19e]; decide) (by decide) ?_
        refine ev_aload_n (x := 0) (pc := 48) d_ga_smellOf_48 rfl ?_
        refine ev_getR (pc := 49) d_ga_smellOf_49 f_ga_69 (ly_at hX 0 rfl) gg_11 rfl (ly_rf hX 0 17 rfl) ?_
        refine ev_getR (pc := 52) d_ga_smellOf_52 f_ga_385 (ly_at hX 31 rfl) gg_0 rfl (ly_rf hX 31 6 rfl) ?_
        refine ev_iload_n (x := x1) (pc := 55) d_ga_smellOf_55 rfl ?_
        refine ev_ialdJ (v := (gI X 36 (Int32.toNatClampNeg x1))) (pc := 56) d_ga_smellOf_56 (ly_at hX 36 rfl) h_5.1 rfl ?_
        exact ev_iret (pc := 57) ⟨Nat.le_of_ble_eq_true rfl, Nat.le_of_ble_eq_true rfl⟩ d_ga_smellOf_57 rfl (vp_nar_int _) h_5.2
      | 1, _, c_19 =>
        have c_19e : x2 = 1 := gp_eqi (c_19.trans (by decide : (0 : Int) + ((1 : Nat) : Int) = 1)) (by decide)
        have h_6 := h_2.2.2.1 c_19e
        refine ev_tableIn (pc := 15) (off := 43) (tgt := 58) d_ga_smellOf_15 (by rw [c_19e]; decide) (by rw [c_19e]; decide) (by rw [c_19e]; decide) (by decide) ?_
        refine ev_aload_n (x := 0) (pc := 58) d_ga_smellOf_58 rfl ?_
        refine ev_getR (pc := 59) d_ga_smellOf_59 f_ga_69 (ly_at hX 0 rfl) gg_11 rfl (ly_rf hX 0 17 rfl) ?_
        refine ev_getR (pc := 62) d_ga_smellOf_62 f_ga_388 (ly_at hX 31 rfl) gg_0 rfl (ly_rf hX 31 7 rfl) ?_
        refine ev_iload_n (x := x1) (pc := 65) d_ga_smellOf_65 rfl ?_
        refine ev_ialdJ (v := (gI X 37 (Int32.toNatClampNeg x1))) (pc := 66) d_ga_smellOf_66 (ly_at hX 37 rfl) h_6.1 rfl ?_
        exact ev_iret (pc := 67) ⟨Nat.le_of_ble_eq_true rfl, Nat.le_of_ble_eq_true rfl⟩ d_ga_smellOf_67 rfl (vp_nar_int _) h_6.2
      | 2, _, c_19 =>
        have c_19e : x2 = 2 := gp_eqi (c_19.trans (by decide : (0 : Int) + ((2 : Nat) : Int) = 2)) (by decide)
        have h_7 := h_2.2.2.2.1 c_19e
        refine ev_tableIn (pc := 15) (off := 53) (tgt := 68) d_ga_smellOf_15 (by rw [c_19e]; decide) (by rw [c_19e]; decide) (by rw [c_19e]; decide) (by decide) ?_
        refine ev_aload_n (x := 0) (pc := 68) d_ga_smellOf_68 rfl ?_
        refine ev_getR (pc := 69) d_ga_smellOf_69 f_ga_69 (ly_at hX 0 rfl) gg_11 rfl (ly_rf hX 0 17 rfl) ?_
        refine ev_getR (pc := 72) d_ga_smellOf_72 f_ga_391 (ly_at hX 31 rfl) gg_0 rfl (ly_rf hX 31 8 rfl) ?_
        refine ev_iload_n (x := x1) (pc := 75) d_ga_smellOf_75 rfl ?_
        refine ev_ialdJ (v := (gI X 38 (Int32.toNatClampNeg x1))) (pc := 76) d_ga_smellOf_76 (ly_at hX 38 rfl) h_7.1 rfl ?_
        exact ev_iret (pc := 77) ⟨Nat.le_of_ble_eq_true rfl, Nat.le_of_ble_eq_true rfl⟩ d_ga_smellOf_77 rfl (vp_nar_int _) h_7.2
      | 3, _, c_19 =>
        have c_19e : x2 = 3 := gp_eqi (c_19.trans (by decide : (0 : Int) + ((3 : Nat) : Int) = 3)) (by decide)
        have h_8 := h_2.2.2.2.2.1 c_19e
        refine ev_tableIn (pc := 15) (off := 63) (tgt := 78) d_ga_smellOf_15 (by rw [c_19e]; decide) (by rw [c_19e]; decide) (by rw [c_19e]; decide) (by decide) ?_
        refine ev_aload_n (x := 0) (pc := 78) d_ga_smellOf_78 rfl ?_
        refine ev_getR (pc := 79) d_ga_smellOf_79 f_ga_69 (ly_at hX 0 rfl) gg_11 rfl (ly_rf hX 0 17 rfl) ?_
        refine ev_getR (pc := 82) d_ga_smellOf_82 f_ga_394 (ly_at hX 31 rfl) gg_0 rfl (ly_rf hX 31 9 rfl) ?_
        refine ev_iload_n (x := x1) (pc := 85) d_ga_smellOf_85 rfl ?_
        refine ev_ialdJ (v := (gI X 39 (Int32.toNatClampNeg x1))) (pc := 86) d_ga_smellOf_86 (ly_at hX 39 rfl) h_8.1 rfl ?_
        exact ev_iret (pc := 87) ⟨Nat.le_of_ble_eq_true rfl, Nat.le_of_ble_eq_true rfl⟩ d_ga_smellOf_87 rfl (vp_nar_int _) h_8.2
      | 4, _, c_19 =>
        have c_19e : x2 = 4 := gp_eqi (c_19.trans (by decide : (0 : Int) + ((4 : Nat) : Int) = 4)) (by decide)
        have h_9 := h_2.2.2.2.2.2 c_19e
        refine ev_tableIn (pc := 15) (off := 73) (tgt := 88) d_ga_smellOf_15 (by rw [c_19e]; decide) (by rw [c_19e]; decide) (by rw [c_19e]; decide) (by decide) ?_
        refine ev_aload_n (x := 0) (pc := 88) d_ga_smellOf_88 rfl ?_
        refine ev_getR (pc := 89) d_ga_smellOf_89 f_ga_69 (ly_at hX 0 rfl) gg_11 rfl (ly_rf hX 0 17 rfl) ?_
        refine ev_iload_n (x := x1) (pc := 92) d_ga_smellOf_92 rfl ?_
        obtain ⟨Qz_10, hc_11, hk_12⟩ := h_9
        refine ev_callV (z := m_du_isLate) (as := [.int x1]) (rest := []) (pc := 93) d_ga_smellOf_93 (ly_at hX 31 rfl) lt13_0 rfl l_ga_397 i_du_isLate v_du_isLate o_du_isLate rfl rfl (Nat.le_of_ble_eq_true rfl) rfl (Nat.le_of_ble_eq_true rfl) ⟨Nat.le_of_ble_eq_true rfl, Nat.le_of_ble_eq_true rfl⟩ hc_11 (fun r_14 X_13 hq_15 => ?_)
        obtain ⟨v_18, rfl, hX_17, h_16⟩ := hk_12 _ _ hq_15
        show Ev E m_ga_smellOf 96 [(0, .ref 0), (1, .int x1), (2, .int x2)] [.int v_18] X_13 (0, 0) Q
        refine ev_callS (z := m_ga_flag) (as := [.int v_18]) (rest := []) (pc := 96) d_ga_smellOf_96 l_ga_115 i_ga_flag o_ga_flag rfl rfl (Nat.le_of_ble_eq_true rfl) rfl (Nat.le_of_ble_eq_true rfl) ⟨Nat.le_of_ble_eq_true rfl, Nat.le_of_ble_eq_true rfl⟩ (s_ga_flag hX_17 v_18) (fun r X1 hq => ?_)
        obtain ⟨rfl, rfl⟩ := hq
        show Ev E m_ga_smellOf 99 [(0, .ref 0), (1, .int x1), (2, .int x2)] [.int (bz (!decide (v_18 = 0)))] X_13 (0, 0) Q
        exact ev_iret (pc := 99) ⟨Nat.le_of_ble_eq_true rfl, Nat.le_of_ble_eq_true rfl⟩ d_ga_smellOf_99 rfl (vp_nar_int _) h_16
      | k + 5, hk, _ => exact absurd hk (by omega)
  · have h_3 := hh.2 c_1
    refine ev_bipush (v := (-5)) (pc := 11) d_ga_smellOf_11 kc_b_m5 ?_
    exact ev_iret (pc := 13) ⟨Nat.le_of_ble_eq_true rfl, Nat.le_of_ble_eq_true rfl⟩ d_ga_smellOf_13 rfl (vp_nar_int _) h_3
theorem b_ga_limit_0 {E : gp_E} {S : gp_S} {X : gp_H} {Q : Option Value → gp_H → Prop} {x1 : Int32} (hX : Lay S X)  (hh : (((iw x1 0 999) = true → Q (some (.int (gI X 31 10))) (gp_sI X 31 10 x1)) ∧ ((iw x1 0 999) = false → Q (some (.int (-2))) X))) : Ev E m_ga_limit 0 [(0, .ref 0), (1, .int x1)] [] X (0, 0) Q := by
  refine ev_iload_n (x := x1) (pc := 0) d_ga_limit_0 rfl ?_
  refine ev_iconst (v := 0) (pc := 1) d_ga_limit_1 kc_i_0 ?_
  refine ev_sipush (v := 999) (pc := 2) d_ga_limit_2 kc_s_999 ?_
  refine ev_callS (z := m_ga_isWithin) (as := [.int x1, .int 0, .int 999]) (rest := []) (pc := 5) d_ga_limit_5 l_ga_128 i_ga_isWithin o_ga_isWithin rfl rfl (Nat.le_of_ble_eq_true rfl) rfl (Nat.le_of_ble_eq_true rfl) ⟨Nat.le_of_ble_eq_true rfl, Nat.le_of_ble_eq_true rfl⟩ (s_ga_isWithin hX x1 0 999) (fun r X1 hq => ?_)
  obtain ⟨rfl, rfl⟩ := hq
  show Ev E m_ga_limit 8 [(0, .ref 0), (1, .int x1)] [.int (bz (iw x1 0 999))] X (0, 0) Q
  refine ev_ifz_ne (pc := 8) (tgt := 14) d_ga_limit_8 (by decide) (fun c_1 => ?_) (fun c_1 => ?_)
  · have h_2 := hh.1 c_1
    refine ev_aload_n (x := 0) (pc := 14) d_ga_limit_14 rfl ?_
    refine ev_getR (pc := 15) d_ga_limit_15 f_ga_69 (ly_at hX 0 rfl) gg_11 rfl (ly_rf hX 0 17 rfl) ?_
    refine ev_getJ (v := (gI X 31 10)) (pc := 18) d_ga_limit_18 f_ga_400 (ly_at hX 31 rfl) gg_0 rfl rfl ?_
    refine ev_istore_n (L2 := [(0, .ref 0), (1, .int x1), (2, .int (gI X 31 10))]) (pc := 21) d_ga_limit_21 rfl (Nat.le_of_ble_eq_true rfl) rfl ?_
    refine ev_aload_n (x := 0) (pc := 22) d_ga_limit_22 rfl ?_
    refine ev_getR (pc := 23) d_ga_limit_23 f_ga_69 (ly_at hX 0 rfl) gg_11 rfl (ly_rf hX 0 17 rfl) ?_
    refine ev_iload_n (x := x1) (pc := 26) d_ga_limit_26 rfl ?_
    refine ev_putI (pc := 27) d_ga_limit_27 f_ga_400 (ly_at hX 31 rfl) gg_0 rfl (Or.inl rfl) (vp_nar_int _) rfl ?_
    refine ev_iload_n (x := (gI X 31 10)) (pc := 30) d_ga_limit_30 rfl ?_
    exact ev_iret (pc := 31) ⟨Nat.le_of_ble_eq_true rfl, Nat.le_of_ble_eq_true rfl⟩ d_ga_limit_31 rfl (vp_nar_int _) h_2
  · have h_3 := hh.2 c_1
    refine ev_bipush (v := (-2)) (pc := 11) d_ga_limit_11 kc_b_m2 ?_
    exact ev_iret (pc := 13) ⟨Nat.le_of_ble_eq_true rfl, Nat.le_of_ble_eq_true rfl⟩ d_ga_limit_13 rfl (vp_nar_int _) h_3
theorem b_ga_fault_0 {E : gp_E} {S : gp_S} {X : gp_H} {Q : Option Value → gp_H → Prop} {x1 : Int32} (hX : Lay S X)  (hh : (∃ Qz_1, Ev E m_ga_homeAt 0 [(0, .ref 0), (1, .int x1)] [] X (0, 0) Qz_1 ∧ ∀ r X_4, Qz_1 r X_4 → ((∃ a_10 : Nat, r = some (.ref a_10) ∧ gp_at X_4 a_10 (3, 0) ∧ Lay S X_4 ∧ ((¬ (gI X_4 a_10 4) = 1 → Q (some (.int (-3))) X_4) ∧ ((gI X_4 a_10 4) = 1 → (((gI X_4 a_10 8) = 0 → (∃ Qz_19, Ev E m_ga_faults 0 [(0, .ref 0)] [] (gp_sI X_4 a_10 8 1) (0, 0) Qz_19 ∧ ∀ r X_22, Qz_19 r X_22 → ∃ v_28 : Int32, r = some (.int v_28) ∧ Lay S X_22 ∧ gp_at X_22 a_10 (3, 0) ∧ Q (some (.int v_28)) X_22)) ∧ (¬ (gI X_4 a_10 8) = 0 → Q (some (.int (-3))) X_4))))) ∨ (r = some .null ∧ Lay S X_4 ∧ Q (some (.int (-1))) X_4)))) : Ev E m_ga_fault 0 [(0, .ref 0), (1, .int x1)] [] X (0, 0) Q := by
  refine ev_aload_n (x := 0) (pc := 0) d_ga_fault_0 rfl ?_
  refine ev_iload_n (x := x1) (pc := 1) d_ga_fault_1 rfl ?_
  obtain ⟨Qz_1, hc_2, hk_3⟩ := hh
  refine ev_callV (z := m_ga_homeAt) (as := [.int x1]) (rest := []) (pc := 2) d_ga_fault_2 (ly_at hX 0 rfl) lt13_11 rfl l_ga_204 i_ga_homeAt v_ga_homeAt o_ga_homeAt rfl rfl (Nat.le_of_ble_eq_true rfl) rfl (Nat.le_of_ble_eq_true rfl) ⟨Nat.le_of_ble_eq_true rfl, Nat.le_of_ble_eq_true rfl⟩ hc_2 (fun r_5 X_4 hq_6 => ?_)
  rcases hk_3 _ _ hq_6 with ⟨a_10, rfl, hb_11, hX_8, h_7⟩ | ⟨rfl, hX_8, h_12⟩
  · show Ev E m_ga_fault 5 [(0, .ref 0), (1, .int x1)] [.ref a_10] X_4 (0, 0) Q
    refine ev_astore_n (L2 := [(0, .ref 0), (1, .int x1), (2, .ref a_10)]) (pc := 5) d_ga_fault_5 rfl (Nat.le_of_ble_eq_true rfl) rfl ?_
    refine ev_aload_n (x := a_10) (pc := 6) d_ga_fault_6 rfl ?_
    refine ev_ifnonnull (pc := 7) (tgt := 12) d_ga_fault_7 (by decide) ?_
    refine ev_aload_n (x := a_10) (pc := 12) d_ga_fault_12 rfl ?_
    refine ev_getJ (v := (gI X_4 a_10 4)) (pc := 13) d_ga_fault_13 f_ga_249 hb_11 gg_3 rfl rfl ?_
    refine ev_iconst (v := 1) (pc := 16) d_ga_fault_16 kc_i_1 ?_
    refine ev_icmp_ne (pc := 17) (tgt := 27) d_ga_fault_17 (by decide) (fun c_13 => ?_) (fun c_13 => ?_)
    · have h_14 := h_7.1 c_13
      refine ev_bipush (v := (-3)) (pc := 27) d_ga_fault_27 kc_b_m3 ?_
      exact ev_iret (pc := 29) ⟨Nat.le_of_ble_eq_true rfl, Nat.le_of_ble_eq_true rfl⟩ d_ga_fault_29 rfl (vp_nar_int _) h_14
    · have h_15 := h_7.2 c_13
      refine ev_aload_n (x := a_10) (pc := 20) d_ga_fault_20 rfl ?_
      refine ev_getJ (v := (gI X_4 a_10 8)) (pc := 21) d_ga_fault_21 f_ga_261 hb_11 gg_3 rfl rfl ?_
      refine ev_if_eq (pc := 24) (tgt := 30) d_ga_fault_24 (by decide) (fun c_16 => ?_) (fun c_16 => ?_)
      · have h_17 := h_15.1 c_16
        refine ev_aload_n (x := a_10) (pc := 30) d_ga_fault_30 rfl ?_
        refine ev_iconst (v := 1) (pc := 31) d_ga_fault_31 kc_i_1 ?_
        refine ev_putI (pc := 32) d_ga_fault_32 f_ga_261 hb_11 gg_3 rfl (Or.inl rfl) nb_1 fb_1 ?_
        refine ev_aload_n (x := 0) (pc := 35) d_ga_fault_35 rfl ?_
        obtain ⟨Qz_19, hc_20, hk_21⟩ := h_17
        refine ev_callV (z := m_ga_faults) (as := []) (rest := []) (pc := 36) d_ga_fault_36 (ly_at (ly_sI hX_8) 0 rfl) lt13_11 rfl l_ga_403 i_ga_faults v_ga_faults o_ga_faults rfl rfl (Nat.le_of_ble_eq_true rfl) rfl (Nat.le_of_ble_eq_true rfl) ⟨Nat.le_of_ble_eq_true rfl, Nat.le_of_ble_eq_true rfl⟩ hc_20 (fun r_23 X_22 hq_24 => ?_)
        obtain ⟨v_28, rfl, hX_26, hm_27, h_25⟩ := hk_21 _ _ hq_24
        show Ev E m_ga_fault 39 [(0, .ref 0), (1, .int x1), (2, .ref a_10)] [.int v_28] X_22 (0, 0) Q
        exact ev_iret (pc := 39) ⟨Nat.le_of_ble_eq_true rfl, Nat.le_of_ble_eq_true rfl⟩ d_ga_fault_39 rfl (vp_nar_int _) h_25
      · have h_18 := h_15.2 c_16
        refine ev_bipush (v := (-3)) (pc := 27) d_ga_fault_27 kc_b_m3 ?_
        exact ev_iret (pc := 29) ⟨Nat.le_of_ble_eq_true rfl, Nat.le_of_ble_eq_true rfl⟩ d_ga_fault_29 rfl (vp_nar_int _) h_18
  · show Ev E m_ga_fault 5 [(0, .ref 0), (1, .int x1)] [.null] X_4 (0, 0) Q
    refine ev_astore_nN (L2 := [(0, .ref 0), (1, .int x1), (2, .null)]) (pc := 5) d_ga_fault_5 rfl (Nat.le_of_ble_eq_true rfl) rfl ?_
    refine ev_aload_nN  (pc := 6) d_ga_fault_6 rfl ?_
    refine ev_ifnonnullN (pc := 7) d_ga_fault_7 ?_
    refine ev_iconst (v := (-1)) (pc := 10) d_ga_fault_10 kc_i_m1 ?_
    exact ev_iret (pc := 11) ⟨Nat.le_of_ble_eq_true rfl, Nat.le_of_ble_eq_true rfl⟩ d_ga_fault_11 rfl (vp_nar_int _) h_12
theorem b_ga_faults_0 {E : gp_E} {S : gp_S} {X : gp_H} {Q : Option Value → gp_H → Prop}  (hX : Lay S X)  (hh : Ev E m_ga_faults 4 [(0, .ref 0), (1, .int 0), (2, .int 0)] [] X (0, 0) Q) : Ev E m_ga_faults 0 [(0, .ref 0)] [] X (0, 0) Q := by
  refine ev_iconst (v := 0) (pc := 0) d_ga_faults_0 kc_i_0 ?_
  refine ev_istore_n (L2 := [(0, .ref 0), (1, .int 0)]) (pc := 1) d_ga_faults_1 rfl (Nat.le_of_ble_eq_true rfl) rfl ?_
  refine ev_iconst (v := 0) (pc := 2) d_ga_faults_2 kc_i_0 ?_
  refine ev_istore_n (L2 := [(0, .ref 0), (1, .int 0), (2, .int 0)]) (pc := 3) d_ga_faults_3 rfl (Nat.le_of_ble_eq_true rfl) rfl ?_
  exact hh
theorem b_ga_faults_4 {E : gp_E} {S : gp_S} {X : gp_H} {Q : Option Value → gp_H → Prop} {x1 : Int32} {x2 : Int32} (hX : Lay S X)  (hh : (((gI X 0 6) ≤ x2 → Q (some (.int x1)) X) ∧ (¬ (gI X 0 6) ≤ x2 → (vp_in x2 40 ∧ ∃ r_4 : Nat, X.2.2.1 16 (Int32.toNatClampNeg x2) = some r_4 ∧ gp_at X r_4 (3, 0) ∧ (((gI X r_4 8) = 0 → Ev E m_ga_faults 4 [(0, .ref 0), (1, .int x1), (2, .int (x2 + 1))] [] X (0, 0) Q) ∧ (¬ (gI X r_4 8) = 0 → Ev E m_ga_faults 4 [(0, .ref 0), (1, .int (x1 + 1)), (2, .int (x2 + 1))] [] X (0, 0) Q)))))) : Ev E m_ga_faults 4 [(0, .ref 0), (1, .int x1), (2, .int x2)] [] X (0, 0) Q := by
  refine ev_iload_n (x := x2) (pc := 4) d_ga_faults_4 rfl ?_
  refine ev_aload_n (x := 0) (pc := 5) d_ga_faults_5 rfl ?_
  refine ev_getJ (v := (gI X 0 6)) (pc := 6) d_ga_faults_6 f_ga_198 (ly_at hX 0 rfl) gg_11 rfl rfl ?_
  refine ev_icmp_ge (pc := 9) (tgt := 33) d_ga_faults_9 (by decide) (fun c_1 => ?_) (fun c_1 => ?_)
  · have h_2 := hh.1 c_1
    refine ev_iload_n (x := x1) (pc := 33) d_ga_faults_33 rfl ?_
    exact ev_iret (pc := 34) ⟨Nat.le_of_ble_eq_true rfl, Nat.le_of_ble_eq_true rfl⟩ d_ga_faults_34 rfl (vp_nar_int _) h_2
  · have h_3 := hh.2 c_1
    refine ev_aload_n (x := 0) (pc := 12) d_ga_faults_12 rfl ?_
    refine ev_getR (pc := 13) d_ga_faults_13 f_ga_35 (ly_at hX 0 rfl) gg_11 rfl (ly_rf hX 0 5 rfl) ?_
    refine ev_iload_n (x := x2) (pc := 16) d_ga_faults_16 rfl ?_
    obtain ⟨hv_7, r_4, hq_6, hb_5, h_8⟩ := h_3
    refine ev_ald4 (pc := 17) d_ga_faults_17 (ly_at hX 16 rfl) hv_7 hq_6 ?_
    refine ev_getJ (v := (gI X r_4 8)) (pc := 18) d_ga_faults_18 f_ga_261 hb_5 gg_3 rfl rfl ?_
    refine ev_if_eq (pc := 21) (tgt := 27) d_ga_faults_21 (by decide) (fun c_9 => ?_) (fun c_9 => ?_)
    · have h_10 := h_8.1 c_9
      refine ev_iinc (v := (x2 + 1)) (L2 := [(0, .ref 0), (1, .int x1), (2, .int (x2 + 1))]) (pc := 27) d_ga_faults_27 rfl (by rw [kc_i_1]) rfl (Nat.le_of_ble_eq_true rfl) rfl ?_
      refine ev_goto (pc := 30) (tgt := 4) d_ga_faults_30 (by decide) ?_
      exact h_10
    · have h_11 := h_8.2 c_9
      refine ev_iinc (v := (x1 + 1)) (L2 := [(0, .ref 0), (1, .int (x1 + 1)), (2, .int x2)]) (pc := 24) d_ga_faults_24 rfl (by rw [kc_i_1]) rfl (Nat.le_of_ble_eq_true rfl) rfl ?_
      refine ev_iinc (v := (x2 + 1)) (L2 := [(0, .ref 0), (1, .int (x1 + 1)), (2, .int (x2 + 1))]) (pc := 27) d_ga_faults_27 rfl (by rw [kc_i_1]) rfl (Nat.le_of_ble_eq_true rfl) rfl ?_
      refine ev_goto (pc := 30) (tgt := 4) d_ga_faults_30 (by decide) ?_
      exact h_11
theorem b_ga_beyond_0 {E : gp_E} {S : gp_S} {X : gp_H} {Q : Option Value → gp_H → Prop} {x1 : Int32} {x2 : Int32} (hX : Lay S X)  (hh : (∃ Qz_1, Ev E m_ga_modelAt 0 [(0, .ref 0), (1, .int x1)] [] X (0, 0) Qz_1 ∧ ∀ r X_4, Qz_1 r X_4 → ((∃ a_10 k_12 : Nat, r = some (.ref a_10) ∧ gp_at X_4 a_10 (k_12, 0) ∧ (k_12 < 13 ∧ gp_gid k_12 = 7) ∧ Lay S X_4 ∧ (((iw x2 1 9999) = true → Ev E m_ga_beyond 38 [(0, .ref 0), (1, .int x1), (2, .int x2), (3, .int 0), (4, .int 0), (5, .int 0), (6, .int 0), (7, .int 0)] [] X_4 (0, 0) Q) ∧ ((iw x2 1 9999) = false → Q (some (.int (-2))) X_4))) ∨ (r = some .null ∧ Lay S X_4 ∧ Q (some (.int (-1))) X_4)))) : Ev E m_ga_beyond 0 [(0, .ref 0), (1, .int x1), (2, .int x2)] [] X (0, 0) Q := by
  refine ev_aload_n (x := 0) (pc := 0) d_ga_beyond_0 rfl ?_
  refine ev_iload_n (x := x1) (pc := 1) d_ga_beyond_1 rfl ?_
  obtain ⟨Qz_1, hc_2, hk_3⟩ := hh
  refine ev_callV (z := m_ga_modelAt) (as := [.int x1]) (rest := []) (pc := 2) d_ga_beyond_2 (ly_at hX 0 rfl) lt13_11 rfl l_ga_194 i_ga_modelAt v_ga_modelAt o_ga_modelAt rfl rfl (Nat.le_of_ble_eq_true rfl) rfl (Nat.le_of_ble_eq_true rfl) ⟨Nat.le_of_ble_eq_true rfl, Nat.le_of_ble_eq_true rfl⟩ hc_2 (fun r_5 X_4 hq_6 => ?_)
  rcases hk_3 _ _ hq_6 with ⟨a_10, k_12, rfl, hb_11, hg_13, hX_8, h_7⟩ | ⟨rfl, hX_8, h_14⟩
  · show Ev E m_ga_beyond 5 [(0, .ref 0), (1, .int x1), (2, .int x2)] [.ref a_10] X_4 (0, 0) Q
    refine ev_ifnonnull (pc := 5) (tgt := 10) d_ga_beyond_5 (by decide) ?_
    refine ev_iload_n (x := x2) (pc := 10) d_ga_beyond_10 rfl ?_
    refine ev_iconst (v := 1) (pc := 11) d_ga_beyond_11 kc_i_1 ?_
    refine ev_sipush (v := 9999) (pc := 12) d_ga_beyond_12 kc_s_9999 ?_
    refine ev_callS (z := m_ga_isWithin) (as := [.int x2, .int 1, .int 9999]) (rest := []) (pc := 15) d_ga_beyond_15 l_ga_128 i_ga_isWithin o_ga_isWithin rfl rfl (Nat.le_of_ble_eq_true rfl) rfl (Nat.le_of_ble_eq_true rfl) ⟨Nat.le_of_ble_eq_true rfl, Nat.le_of_ble_eq_true rfl⟩ (s_ga_isWithin hX_8 x2 1 9999) (fun r X1 hq => ?_)
    obtain ⟨rfl, rfl⟩ := hq
    show Ev E m_ga_beyond 18 [(0, .ref 0), (1, .int x1), (2, .int x2)] [.int (bz (iw x2 1 9999))] X_4 (0, 0) Q
    refine ev_ifz_ne (pc := 18) (tgt := 24) d_ga_beyond_18 (by decide) (fun c_15 => ?_) (fun c_15 => ?_)
    · have h_16 := h_7.1 c_15
      refine ev_iconst (v := 0) (pc := 24) d_ga_beyond_24 kc_i_0 ?_
      refine ev_istore_n (L2 := [(0, .ref 0), (1, .int x1), (2, .int x2), (3, .int 0)]) (pc := 25) d_ga_beyond_25 rfl (Nat.le_of_ble_eq_true rfl) rfl ?_
      refine ev_iconst (v := 0) (pc := 26) d_ga_beyond_26 kc_i_0 ?_
      refine ev_istore (L2 := [(0, .ref 0), (1, .int x1), (2, .int x2), (3, .int 0), (4, .int 0)]) (pc := 27) d_ga_beyond_27 rfl (Nat.le_of_ble_eq_true rfl) rfl ?_
      refine ev_iconst (v := 0) (pc := 29) d_ga_beyond_29 kc_i_0 ?_
      refine ev_istore (L2 := [(0, .ref 0), (1, .int x1), (2, .int x2), (3, .int 0), (4, .int 0), (5, .int 0)]) (pc := 30) d_ga_beyond_30 rfl (Nat.le_of_ble_eq_true rfl) rfl ?_
      refine ev_iconst (v := 0) (pc := 32) d_ga_beyond_32 kc_i_0 ?_
      refine ev_istore (L2 := [(0, .ref 0), (1, .int x1), (2, .int x2), (3, .int 0), (4, .int 0), (5, .int 0), (6, .int 0)]) (pc := 33) d_ga_beyond_33 rfl (Nat.le_of_ble_eq_true rfl) rfl ?_
      refine ev_iconst (v := 0) (pc := 35) d_ga_beyond_35 kc_i_0 ?_
      refine ev_istore (L2 := [(0, .ref 0), (1, .int x1), (2, .int x2), (3, .int 0), (4, .int 0), (5, .int 0), (6, .int 0), (7, .int 0)]) (pc := 36) d_ga_beyond_36 rfl (Nat.le_of_ble_eq_true rfl) rfl ?_
      exact h_16
    · have h_17 := h_7.2 c_15
      refine ev_bipush (v := (-2)) (pc := 21) d_ga_beyond_21 kc_b_m2 ?_
      exact ev_iret (pc := 23) ⟨Nat.le_of_ble_eq_true rfl, Nat.le_of_ble_eq_true rfl⟩ d_ga_beyond_23 rfl (vp_nar_int _) h_17
  · show Ev E m_ga_beyond 5 [(0, .ref 0), (1, .int x1), (2, .int x2)] [.null] X_4 (0, 0) Q
    refine ev_ifnonnullN (pc := 5) d_ga_beyond_5 ?_
    refine ev_iconst (v := (-1)) (pc := 8) d_ga_beyond_8 kc_i_m1 ?_
    exact ev_iret (pc := 9) ⟨Nat.le_of_ble_eq_true rfl, Nat.le_of_ble_eq_true rfl⟩ d_ga_beyond_9 rfl (vp_nar_int _) h_14
theorem b_ga_beyond_38 {E : gp_E} {S : gp_S} {X : gp_H} {Q : Option Value → gp_H → Prop} {x1 : Int32} {x2 : Int32} {x3 : Int32} {x4 : Int32} {x5 : Int32} {x6 : Int32} {x7 : Int32} (hX : Lay S X)  (hh : (((gI X 0 6) ≤ x7 → Ev E m_ga_beyond 163 [(0, .ref 0), (1, .int x1), (2, .int x2), (3, .int x3), (4, .int x4), (5, .int x5), (6, .int x6), (7, .long 0), (9, .int x6)] [] X (0, 0) Q) ∧ (¬ (gI X 0 6) ≤ x7 → (vp_in x7 40 ∧ ∃ r_4 : Nat, X.2.2.1 16 (Int32.toNatClampNeg x7) = some r_4 ∧ gp_at X r_4 (3, 0) ∧ (((gI X r_4 4) = 1 → (vp_in x7 40 ∧ ∃ r_12 : Nat, X.2.2.1 16 (Int32.toNatClampNeg x7) = some r_12 ∧ gp_at X r_12 (3, 0) ∧ (∃ r_17 k_18 : Nat, X.2.2.1 r_12 3 = some r_17 ∧ gp_at X r_17 (k_18, 0) ∧ (k_18 < 13 ∧ gp_gid k_18 = 7) ∧ ((¬ (gI X r_17 1) = x1 → Ev E m_ga_beyond 86 [(0, .ref 0), (1, .int x1), (2, .int x2), (3, .int x3), (4, .int x4), (5, .int x5), (6, .int x6), (7, .int x7)] [.int 0] X (0, 0) Q) ∧ ((gI X r_17 1) = x1 → Ev E m_ga_beyond 86 [(0, .ref 0), (1, .int x1), (2, .int x2), (3, .int x3), (4, .int x4), (5, .int x5), (6, .int x6), (7, .int x7)] [.int 1] X (0, 0) Q))))) ∧ (¬ (gI X r_4 4) = 1 → Ev E m_ga_beyond 38 [(0, .ref 0), (1, .int x1), (2, .int x2), (3, .int x3), (4, .int x4), (5, .int x5), (6, .int x6), (7, .int (x7 + 1))] [] X (0, 0) Q)))))) : Ev E m_ga_beyond 38 [(0, .ref 0), (1, .int x1), (2, .int x2), (3, .int x3), (4, .int x4), (5, .int x5), (6, .int x6), (7, .int x7)] [] X (0, 0) Q := by
  refine ev_iload (x := x7) (pc := 38) d_ga_beyond_38 rfl ?_
  refine ev_aload_n (x := 0) (pc := 40) d_ga_beyond_40 rfl ?_
  refine ev_getJ (v := (gI X 0 6)) (pc := 41) d_ga_beyond_41 f_ga_198 (ly_at hX 0 rfl) gg_11 rfl rfl ?_
  refine ev_icmp_ge (pc := 44) (tgt := 156) d_ga_beyond_44 (by decide) (fun c_1 => ?_) (fun c_1 => ?_)
  · have h_2 := hh.1 c_1
    refine ev_lconst (v := 0) (pc := 156) d_ga_beyond_156 rfl ?_
    refine ev_lstore (L2 := [(0, .ref 0), (1, .int x1), (2, .int x2), (3, .int x3), (4, .int x4), (5, .int x5), (6, .int x6), (7, .long 0)]) (pc := 157) d_ga_beyond_157 rfl rfl (Nat.le_of_ble_eq_true rfl) rfl ?_
    refine ev_iload (x := x6) (pc := 159) d_ga_beyond_159 rfl ?_
    refine ev_istore (L2 := [(0, .ref 0), (1, .int x1), (2, .int x2), (3, .int x3), (4, .int x4), (5, .int x5), (6, .int x6), (7, .long 0), (9, .int x6)]) (pc := 161) d_ga_beyond_161 rfl (Nat.le_of_ble_eq_true rfl) rfl ?_
    exact h_2
  · have h_3 := hh.2 c_1
    refine ev_aload_n (x := 0) (pc := 47) d_ga_beyond_47 rfl ?_
    refine ev_getR (pc := 48) d_ga_beyond_48 f_ga_35 (ly_at hX 0 rfl) gg_11 rfl (ly_rf hX 0 5 rfl) ?_
    refine ev_iload (x := x7) (pc := 51) d_ga_beyond_51 rfl ?_
    obtain ⟨hv_7, r_4, hq_6, hb_5, h_8⟩ := h_3
    refine ev_ald4 (pc := 53) d_ga_beyond_53 (ly_at hX 16 rfl) hv_7 hq_6 ?_
    refine ev_getJ (v := (gI X r_4 4)) (pc := 54) d_ga_beyond_54 f_ga_249 hb_5 gg_3 rfl rfl ?_
    refine ev_iconst (v := 1) (pc := 57) d_ga_beyond_57 kc_i_1 ?_
    refine ev_icmp_eq (pc := 58) (tgt := 64) d_ga_beyond_58 (by decide) (fun c_9 => ?_) (fun c_9 => ?_)
    · have h_10 := h_8.1 c_9
      refine ev_aload_n (x := 0) (pc := 64) d_ga_beyond_64 rfl ?_
      refine ev_getR (pc := 65) d_ga_beyond_65 f_ga_35 (ly_at hX 0 rfl) gg_11 rfl (ly_rf hX 0 5 rfl) ?_
      refine ev_iload (x := x7) (pc := 68) d_ga_beyond_68 rfl ?_
      obtain ⟨hv_15, r_12, hq_14, hb_13, h_16⟩ := h_10
      refine ev_ald4 (pc := 70) d_ga_beyond_70 (ly_at hX 16 rfl) hv_15 hq_14 ?_
      obtain ⟨r_17, k_18, hq_20, hb_19, hg_21, h_22⟩ := h_16
      refine ev_getR (pc := 71) d_ga_beyond_71 f_ga_354 hb_13 gg_3 rfl hq_20 ?_
      refine ev_getJ (v := (gI X r_17 1)) (pc := 74) d_ga_beyond_74 f_ga_406 hb_19 hg_21 rfl rfl ?_
      refine ev_iload_n (x := x1) (pc := 77) d_ga_beyond_77 rfl ?_
      refine ev_icmp_ne (pc := 78) (tgt := 85) d_ga_beyond_78 (by decide) (fun c_23 => ?_) (fun c_23 => ?_)
      · have h_24 := h_22.1 c_23
        refine ev_iconst (v := 0) (pc := 85) d_ga_beyond_85 kc_i_0 ?_
        exact h_24
      · have h_25 := h_22.2 c_23
        refine ev_iconst (v := 1) (pc := 81) d_ga_beyond_81 kc_i_1 ?_
        refine ev_goto (pc := 82) (tgt := 86) d_ga_beyond_82 (by decide) ?_
        exact h_25
    · have h_11 := h_8.2 c_9
      refine ev_goto (pc := 61) (tgt := 150) d_ga_beyond_61 (by decide) ?_
      refine ev_iinc (v := (x7 + 1)) (L2 := [(0, .ref 0), (1, .int x1), (2, .int x2), (3, .int x3), (4, .int x4), (5, .int x5), (6, .int x6), (7, .int (x7 + 1))]) (pc := 150) d_ga_beyond_150 rfl (by rw [kc_i_1]) rfl (Nat.le_of_ble_eq_true rfl) rfl ?_
      refine ev_goto (pc := 153) (tgt := 38) d_ga_beyond_153 (by decide) ?_
      exact h_11
theorem b_ga_beyond_86 {E : gp_E} {S : gp_S} {X : gp_H} {Q : Option Value → gp_H → Prop} {x1 : Int32} {x2 : Int32} {x3 : Int32} {x4 : Int32} {x5 : Int32} {x6 : Int32} {x7 : Int32} {t0 : Int32} (hX : Lay S X)  (hh : (vp_in x7 40 ∧ ∃ r_1 : Nat, X.2.2.1 16 (Int32.toNatClampNeg x7) = some r_1 ∧ gp_at X r_1 (3, 0) ∧ ((t0 = 0 → Ev E m_ga_beyond 143 [(0, .ref 0), (1, .int x1), (2, .int x2), (3, .int (x3 + 1)), (4, .int (x4 + (bz (!decide ((gI X r_1 8) = 0))))), (5, .int (x5 + (bz (!decide (t0 = 0))))), (6, .int x6), (7, .int x7), (8, .int t0)] [.int x6] X (0, 0) Q) ∧ (¬ t0 = 0 → (vp_in x7 40 ∧ ∃ r_9 : Nat, X.2.2.1 16 (Int32.toNatClampNeg x7) = some r_9 ∧ gp_at X r_9 (3, 0) ∧ (((gI X r_9 8) = 0 → Ev E m_ga_beyond 143 [(0, .ref 0), (1, .int x1), (2, .int x2), (3, .int (x3 + 1)), (4, .int (x4 + (bz (!decide ((gI X r_1 8) = 0))))), (5, .int (x5 + (bz (!decide (t0 = 0))))), (6, .int x6), (7, .int x7), (8, .int t0)] [.int x6] X (0, 0) Q) ∧ (¬ (gI X r_9 8) = 0 → Ev E m_ga_beyond 144 [(0, .ref 0), (1, .int x1), (2, .int x2), (3, .int (x3 + 1)), (4, .int (x4 + (bz (!decide ((gI X r_1 8) = 0))))), (5, .int (x5 + (bz (!decide (t0 = 0))))), (6, .int x6), (7, .int x7), (8, .int t0)] [.int 1, .int x6] X (0, 0) Q))))))) : Ev E m_ga_beyond 86 [(0, .ref 0), (1, .int x1), (2, .int x2), (3, .int x3), (4, .int x4), (5, .int x5), (6, .int x6), (7, .int x7)] [.int t0] X (0, 0) Q := by
  refine ev_istore (L2 := [(0, .ref 0), (1, .int x1), (2, .int x2), (3, .int x3), (4, .int x4), (5, .int x5), (6, .int x6), (7, .int x7), (8, .int t0)]) (pc := 86) d_ga_beyond_86 rfl (Nat.le_of_ble_eq_true rfl) rfl ?_
  refine ev_iinc (v := (x3 + 1)) (L2 := [(0, .ref 0), (1, .int x1), (2, .int x2), (3, .int (x3 + 1)), (4, .int x4), (5, .int x5), (6, .int x6), (7, .int x7), (8, .int t0)]) (pc := 88) d_ga_beyond_88 rfl (by rw [kc_i_1]) rfl (Nat.le_of_ble_eq_true rfl) rfl ?_
  refine ev_iload (x := x4) (pc := 91) d_ga_beyond_91 rfl ?_
  refine ev_aload_n (x := 0) (pc := 93) d_ga_beyond_93 rfl ?_
  refine ev_getR (pc := 94) d_ga_beyond_94 f_ga_35 (ly_at hX 0 rfl) gg_11 rfl (ly_rf hX 0 5 rfl) ?_
  refine ev_iload (x := x7) (pc := 97) d_ga_beyond_97 rfl ?_
  obtain ⟨hv_4, r_1, hq_3, hb_2, h_5⟩ := hh
  refine ev_ald4 (pc := 99) d_ga_beyond_99 (ly_at hX 16 rfl) hv_4 hq_3 ?_
  refine ev_getJ (v := (gI X r_1 8)) (pc := 100) d_ga_beyond_100 f_ga_261 hb_2 gg_3 rfl rfl ?_
  refine ev_callS (z := m_ga_flag) (as := [.int (gI X r_1 8)]) (rest := [.int x4]) (pc := 103) d_ga_beyond_103 l_ga_115 i_ga_flag o_ga_flag rfl rfl (Nat.le_of_ble_eq_true rfl) rfl (Nat.le_of_ble_eq_true rfl) ⟨Nat.le_of_ble_eq_true rfl, Nat.le_of_ble_eq_true rfl⟩ (s_ga_flag hX (gI X r_1 8)) (fun r X1 hq => ?_)
  obtain ⟨rfl, rfl⟩ := hq
  show Ev E m_ga_beyond 106 [(0, .ref 0), (1, .int x1), (2, .int x2), (3, .int (x3 + 1)), (4, .int x4), (5, .int x5), (6, .int x6), (7, .int x7), (8, .int t0)] [.int (bz (!decide ((gI X r_1 8) = 0))), .int x4] X (0, 0) Q
  refine ev_iadd (pc := 106) d_ga_beyond_106 ?_
  refine ev_istore (L2 := [(0, .ref 0), (1, .int x1), (2, .int x2), (3, .int (x3 + 1)), (4, .int (x4 + (bz (!decide ((gI X r_1 8) = 0))))), (5, .int x5), (6, .int x6), (7, .int x7), (8, .int t0)]) (pc := 107) d_ga_beyond_107 rfl (Nat.le_of_ble_eq_true rfl) rfl ?_
  refine ev_iload (x := x5) (pc := 109) d_ga_beyond_109 rfl ?_
  refine ev_iload (x := t0) (pc := 111) d_ga_beyond_111 rfl ?_
  refine ev_callS (z := m_ga_flag) (as := [.int t0]) (rest := [.int x5]) (pc := 113) d_ga_beyond_113 l_ga_115 i_ga_flag o_ga_flag rfl rfl (Nat.le_of_ble_eq_true rfl) rfl (Nat.le_of_ble_eq_true rfl) ⟨Nat.le_of_ble_eq_true rfl, Nat.le_of_ble_eq_true rfl⟩ (s_ga_flag hX t0) (fun r X1 hq => ?_)
  obtain ⟨rfl, rfl⟩ := hq
  show Ev E m_ga_beyond 116 [(0, .ref 0), (1, .int x1), (2, .int x2), (3, .int (x3 + 1)), (4, .int (x4 + (bz (!decide ((gI X r_1 8) = 0))))), (5, .int x5), (6, .int x6), (7, .int x7), (8, .int t0)] [.int (bz (!decide (t0 = 0))), .int x5] X (0, 0) Q
  refine ev_iadd (pc := 116) d_ga_beyond_116 ?_
  refine ev_istore (L2 := [(0, .ref 0), (1, .int x1), (2, .int x2), (3, .int (x3 + 1)), (4, .int (x4 + (bz (!decide ((gI X r_1 8) = 0))))), (5, .int (x5 + (bz (!decide (t0 = 0))))), (6, .int x6), (7, .int x7), (8, .int t0)]) (pc := 117) d_ga_beyond_117 rfl (Nat.le_of_ble_eq_true rfl) rfl ?_
  refine ev_iload (x := x6) (pc := 119) d_ga_beyond_119 rfl ?_
  refine ev_iload (x := t0) (pc := 121) d_ga_beyond_121 rfl ?_
  refine ev_if_eq (pc := 123) (tgt := 143) d_ga_beyond_123 (by decide) (fun c_6 => ?_) (fun c_6 => ?_)
  · have h_7 := h_5.1 c_6
    exact h_7
  · have h_8 := h_5.2 c_6
    refine ev_aload_n (x := 0) (pc := 126) d_ga_beyond_126 rfl ?_
    refine ev_getR (pc := 127) d_ga_beyond_127 f_ga_35 (ly_at hX 0 rfl) gg_11 rfl (ly_rf hX 0 5 rfl) ?_
    refine ev_iload (x := x7) (pc := 130) d_ga_beyond_130 rfl ?_
    obtain ⟨hv_12, r_9, hq_11, hb_10, h_13⟩ := h_8
    refine ev_ald4 (pc := 132) d_ga_beyond_132 (ly_at hX 16 rfl) hv_12 hq_11 ?_
    refine ev_getJ (v := (gI X r_9 8)) (pc := 133) d_ga_beyond_133 f_ga_261 hb_10 gg_3 rfl rfl ?_
    refine ev_if_eq (pc := 136) (tgt := 143) d_ga_beyond_136 (by decide) (fun c_14 => ?_) (fun c_14 => ?_)
    · have h_15 := h_13.1 c_14
      exact h_15
    · have h_16 := h_13.2 c_14
      refine ev_iconst (v := 1) (pc := 139) d_ga_beyond_139 kc_i_1 ?_
      refine ev_goto (pc := 140) (tgt := 144) d_ga_beyond_140 (by decide) ?_
      exact h_16
theorem b_ga_beyond_143 {E : gp_E} {S : gp_S} {X : gp_H} {Q : Option Value → gp_H → Prop} {x1 : Int32} {x2 : Int32} {x3 : Int32} {x4 : Int32} {x5 : Int32} {x6 : Int32} {x7 : Int32} {x8 : Int32} {t0 : Int32} (hX : Lay S X)  (hh : Ev E m_ga_beyond 144 [(0, .ref 0), (1, .int x1), (2, .int x2), (3, .int x3), (4, .int x4), (5, .int x5), (6, .int x6), (7, .int x7), (8, .int x8)] [.int 0, .int t0] X (0, 0) Q) : Ev E m_ga_beyond 143 [(0, .ref 0), (1, .int x1), (2, .int x2), (3, .int x3), (4, .int x4), (5, .int x5), (6, .int x6), (7, .int x7), (8, .int x8)] [.int t0] X (0, 0) Q := by
  refine ev_iconst (v := 0) (pc := 143) d_ga_beyond_143 kc_i_0 ?_
  exact hh
theorem b_ga_beyond_144 {E : gp_E} {S : gp_S} {X : gp_H} {Q : Option Value → gp_H → Prop} {x1 : Int32} {x2 : Int32} {x3 : Int32} {x4 : Int32} {x5 : Int32} {x6 : Int32} {x7 : Int32} {x8 : Int32} {t0 : Int32} {t1 : Int32} (hX : Lay S X)  (hh : Ev E m_ga_beyond 38 [(0, .ref 0), (1, .int x1), (2, .int x2), (3, .int x3), (4, .int x4), (5, .int x5), (6, .int (t1 + (bz (!decide (t0 = 0))))), (7, .int (x7 + 1))] [] X (0, 0) Q) : Ev E m_ga_beyond 144 [(0, .ref 0), (1, .int x1), (2, .int x2), (3, .int x3), (4, .int x4), (5, .int x5), (6, .int x6), (7, .int x7), (8, .int x8)] [.int t0, .int t1] X (0, 0) Q := by
  refine ev_callS (z := m_ga_flag) (as := [.int t0]) (rest := [.int t1]) (pc := 144) d_ga_beyond_144 l_ga_115 i_ga_flag o_ga_flag rfl rfl (Nat.le_of_ble_eq_true rfl) rfl (Nat.le_of_ble_eq_true rfl) ⟨Nat.le_of_ble_eq_true rfl, Nat.le_of_ble_eq_true rfl⟩ (s_ga_flag hX t0) (fun r X1 hq => ?_)
  obtain ⟨rfl, rfl⟩ := hq
  show Ev E m_ga_beyond 147 [(0, .ref 0), (1, .int x1), (2, .int x2), (3, .int x3), (4, .int x4), (5, .int x5), (6, .int x6), (7, .int x7), (8, .int x8)] [.int (bz (!decide (t0 = 0))), .int t1] X (0, 0) Q
  refine ev_iadd (pc := 147) d_ga_beyond_147 ?_
  refine ev_istore (L2 := [(0, .ref 0), (1, .int x1), (2, .int x2), (3, .int x3), (4, .int x4), (5, .int x5), (6, .int (t1 + (bz (!decide (t0 = 0))))), (7, .int x7), (8, .int x8)]) (pc := 148) d_ga_beyond_148 rfl (Nat.le_of_ble_eq_true rfl) rfl ?_
  refine ev_iinc (v := (x7 + 1)) (L2 := [(0, .ref 0), (1, .int x1), (2, .int x2), (3, .int x3), (4, .int x4), (5, .int x5), (6, .int (t1 + (bz (!decide (t0 = 0))))), (7, .int (x7 + 1)), (8, .int x8)]) (pc := 150) d_ga_beyond_150 rfl (by rw [kc_i_1]) rfl (Nat.le_of_ble_eq_true rfl) rfl ?_
  refine ev_goto (pc := 153) (tgt := 38) d_ga_beyond_153 (by decide) ?_
  exact ev_sub [(0, .ref 0), (1, .int x1), (2, .int x2), (3, .int x3), (4, .int x4), (5, .int x5), (6, .int (t1 + (bz (!decide (t0 = 0))))), (7, .int (x7 + 1))] (List.forall_mem_cons.mpr ⟨rfl, (List.forall_mem_cons.mpr ⟨rfl, (List.forall_mem_cons.mpr ⟨rfl, (List.forall_mem_cons.mpr ⟨rfl, (List.forall_mem_cons.mpr ⟨rfl, (List.forall_mem_cons.mpr ⟨rfl, (List.forall_mem_cons.mpr ⟨rfl, (List.forall_mem_cons.mpr ⟨rfl, (fun _ h => nomatch h)⟩)⟩)⟩)⟩)⟩)⟩)⟩)⟩) hh
theorem b_ga_beyond_163 {E : gp_E} {S : gp_S} {X : gp_H} {Q : Option Value → gp_H → Prop} {x1 : Int32} {x2 : Int32} {x3 : Int32} {x4 : Int32} {x5 : Int32} {x6 : Int32} {x7 : Int64} {x9 : Int32} (hX : Lay S X)  (hh : ((x5 < x9 → Ev E m_ga_beyond 208 [(0, .ref 0), (1, .int x1), (2, .int x2), (3, .int x3), (4, .int x4), (5, .int x5), (6, .int x6), (7, .long x7), (9, .int x9)] [] X (0, 0) Q) ∧ (¬ x5 < x9 → ((x4 < x9 → Ev E m_ga_beyond 208 [(0, .ref 0), (1, .int x1), (2, .int x2), (3, .int x3), (4, .int x4), (5, .int x5), (6, .int x6), (7, .long x7), (9, .int x9)] [] X (0, 0) Q) ∧ (¬ x4 < x9 → (∃ Qz_7, Ev E m_ga_choose 0 [(0, .int x5), (1, .int x9)] [] X (0, 0) Qz_7 ∧ ∀ r X_10, Qz_7 r X_10 → ∃ v_15 : Int64, r = some (.long v_15) ∧ Lay S X_10 ∧ (∃ Qz_16, Ev E m_ga_choose 0 [(0, .int (x3 - x5)), (1, .int (x4 - x9))] [] X_10 (0, 0) Qz_16 ∧ ∀ r X_19, Qz_16 r X_19 → ∃ v_24 : Int64, r = some (.long v_24) ∧ Lay S X_19 ∧ Ev E m_ga_beyond 163 [(0, .ref 0), (1, .int x1), (2, .int x2), (3, .int x3), (4, .int x4), (5, .int x5), (6, .int x6), (7, .long (x7 + (v_15 * v_24))), (9, .int (x9 + 1))] [] X_19 (0, 0) Q))))))) : Ev E m_ga_beyond 163 [(0, .ref 0), (1, .int x1), (2, .int x2), (3, .int x3), (4, .int x4), (5, .int x5), (6, .int x6), (7, .long x7), (9, .int x9)] [] X (0, 0) Q := by
  refine ev_iload (x := x9) (pc := 163) d_ga_beyond_163 rfl ?_
  refine ev_iload (x := x5) (pc := 165) d_ga_beyond_165 rfl ?_
  refine ev_icmp_gt (pc := 167) (tgt := 208) d_ga_beyond_167 (by decide) (fun c_1 => ?_) (fun c_1 => ?_)
  · have h_2 := hh.1 c_1
    exact h_2
  · have h_3 := hh.2 c_1
    refine ev_iload (x := x9) (pc := 170) d_ga_beyond_170 rfl ?_
    refine ev_iload (x := x4) (pc := 172) d_ga_beyond_172 rfl ?_
    refine ev_icmp_gt (pc := 174) (tgt := 208) d_ga_beyond_174 (by decide) (fun c_4 => ?_) (fun c_4 => ?_)
    · have h_5 := h_3.1 c_4
      exact h_5
    · have h_6 := h_3.2 c_4
      refine ev_lload (x := x7) (pc := 177) d_ga_beyond_177 rfl ?_
      refine ev_iload (x := x5) (pc := 179) d_ga_beyond_179 rfl ?_
      refine ev_iload (x := x9) (pc := 181) d_ga_beyond_181 rfl ?_
      obtain ⟨Qz_7, hc_8, hk_9⟩ := h_6
      refine ev_callS (z := m_ga_choose) (as := [.int x5, .int x9]) (rest := [.long x7]) (pc := 183) d_ga_beyond_183 l_ga_409 i_ga_choose o_ga_choose rfl rfl (Nat.le_of_ble_eq_true rfl) rfl (Nat.le_of_ble_eq_true rfl) ⟨Nat.le_of_ble_eq_true rfl, Nat.le_of_ble_eq_true rfl⟩ hc_8 (fun r_11 X_10 hq_12 => ?_)
      obtain ⟨v_15, rfl, hX_14, h_13⟩ := hk_9 _ _ hq_12
      show Ev E m_ga_beyond 186 [(0, .ref 0), (1, .int x1), (2, .int x2), (3, .int x3), (4, .int x4), (5, .int x5), (6, .int x6), (7, .long x7), (9, .int x9)] [.long v_15, .long x7] X_10 (0, 0) Q
      refine ev_iload_n (x := x3) (pc := 186) d_ga_beyond_186 rfl ?_
      refine ev_iload (x := x5) (pc := 187) d_ga_beyond_187 rfl ?_
      refine ev_isub (pc := 189) d_ga_beyond_189 ?_
      refine ev_iload (x := x4) (pc := 190) d_ga_beyond_190 rfl ?_
      refine ev_iload (x := x9) (pc := 192) d_ga_beyond_192 rfl ?_
      refine ev_isub (pc := 194) d_ga_beyond_194 ?_
      obtain ⟨Qz_16, hc_17, hk_18⟩ := h_13
      refine ev_callS (z := m_ga_choose) (as := [.int (x3 - x5), .int (x4 - x9)]) (rest := [.long v_15, .long x7]) (pc := 195) d_ga_beyond_195 l_ga_409 i_ga_choose o_ga_choose rfl rfl (Nat.le_of_ble_eq_true rfl) rfl (Nat.le_of_ble_eq_true rfl) ⟨Nat.le_of_ble_eq_true rfl, Nat.le_of_ble_eq_true rfl⟩ hc_17 (fun r_20 X_19 hq_21 => ?_)
      obtain ⟨v_24, rfl, hX_23, h_22⟩ := hk_18 _ _ hq_21
      show Ev E m_ga_beyond 198 [(0, .ref 0), (1, .int x1), (2, .int x2), (3, .int x3), (4, .int x4), (5, .int x5), (6, .int x6), (7, .long x7), (9, .int x9)] [.long v_24, .long v_15, .long x7] X_19 (0, 0) Q
      refine ev_lmul (pc := 198) d_ga_beyond_198 ?_
      refine ev_ladd (pc := 199) d_ga_beyond_199 ?_
      refine ev_lstore (L2 := [(0, .ref 0), (1, .int x1), (2, .int x2), (3, .int x3), (4, .int x4), (5, .int x5), (6, .int x6), (7, .long (x7 + (v_15 * v_24))), (9, .int x9)]) (pc := 200) d_ga_beyond_200 rfl rfl (Nat.le_of_ble_eq_true rfl) rfl ?_
      refine ev_iinc (v := (x9 + 1)) (L2 := [(0, .ref 0), (1, .int x1), (2, .int x2), (3, .int x3), (4, .int x4), (5, .int x5), (6, .int x6), (7, .long (x7 + (v_15 * v_24))), (9, .int (x9 + 1))]) (pc := 202) d_ga_beyond_202 rfl (by rw [kc_i_1]) rfl (Nat.le_of_ble_eq_true rfl) rfl ?_
      refine ev_goto (pc := 205) (tgt := 163) d_ga_beyond_205 (by decide) ?_
      exact h_22
theorem b_ga_beyond_208 {E : gp_E} {S : gp_S} {X : gp_H} {Q : Option Value → gp_H → Prop} {x1 : Int32} {x2 : Int32} {x3 : Int32} {x4 : Int32} {x5 : Int32} {x6 : Int32} {x7 : Int64} {x9 : Int32} (hX : Lay S X)  (hh : (∃ Qz_1, Ev E m_ga_choose 0 [(0, .int x3), (1, .int x4)] [] X (0, 0) Qz_1 ∧ ∀ r X_4, Qz_1 r X_4 → ∃ v_9 : Int64, r = some (.long v_9) ∧ Lay S X_4 ∧ ((0 ≤ (lg_cmp (x7 * 10000) ((Int32.toInt64 x2) * v_9)) → Q (some (.int (bz (!decide (0 = 0))))) X_4) ∧ (¬ 0 ≤ (lg_cmp (x7 * 10000) ((Int32.toInt64 x2) * v_9)) → Q (some (.int (bz (!decide (1 = 0))))) X_4)))) : Ev E m_ga_beyond 208 [(0, .ref 0), (1, .int x1), (2, .int x2), (3, .int x3), (4, .int x4), (5, .int x5), (6, .int x6), (7, .long x7), (9, .int x9)] [] X (0, 0) Q := by
  refine ev_lload (x := x7) (pc := 208) d_ga_beyond_208 rfl ?_
  refine ev_ldc2 (pc := 210) d_ga_beyond_210 k_ga_413 ?_
  refine ev_lmul (pc := 213) d_ga_beyond_213 ?_
  refine ev_iload_n (x := x2) (pc := 214) d_ga_beyond_214 rfl ?_
  refine ev_i2l (pc := 215) d_ga_beyond_215 ?_
  refine ev_iload_n (x := x3) (pc := 216) d_ga_beyond_216 rfl ?_
  refine ev_iload (x := x4) (pc := 217) d_ga_beyond_217 rfl ?_
  obtain ⟨Qz_1, hc_2, hk_3⟩ := hh
  refine ev_callS (z := m_ga_choose) (as := [.int x3, .int x4]) (rest := [.long (Int32.toInt64 x2), .long (x7 * 10000)]) (pc := 219) d_ga_beyond_219 l_ga_409 i_ga_choose o_ga_choose rfl rfl (Nat.le_of_ble_eq_true rfl) rfl (Nat.le_of_ble_eq_true rfl) ⟨Nat.le_of_ble_eq_true rfl, Nat.le_of_ble_eq_true rfl⟩ hc_2 (fun r_5 X_4 hq_6 => ?_)
  obtain ⟨v_9, rfl, hX_8, h_7⟩ := hk_3 _ _ hq_6
  show Ev E m_ga_beyond 222 [(0, .ref 0), (1, .int x1), (2, .int x2), (3, .int x3), (4, .int x4), (5, .int x5), (6, .int x6), (7, .long x7), (9, .int x9)] [.long v_9, .long (Int32.toInt64 x2), .long (x7 * 10000)] X_4 (0, 0) Q
  refine ev_lmul (pc := 222) d_ga_beyond_222 ?_
  refine ev_lcmp (pc := 223) d_ga_beyond_223 ?_
  refine ev_if_ge (pc := 224) (tgt := 231) d_ga_beyond_224 (by decide) (fun c_10 => ?_) (fun c_10 => ?_)
  · have h_11 := h_7.1 c_10
    refine ev_iconst (v := 0) (pc := 231) d_ga_beyond_231 kc_i_0 ?_
    refine ev_callS (z := m_ga_flag) (as := [.int 0]) (rest := []) (pc := 232) d_ga_beyond_232 l_ga_115 i_ga_flag o_ga_flag rfl rfl (Nat.le_of_ble_eq_true rfl) rfl (Nat.le_of_ble_eq_true rfl) ⟨Nat.le_of_ble_eq_true rfl, Nat.le_of_ble_eq_true rfl⟩ (s_ga_flag hX_8 0) (fun r X1 hq => ?_)
    obtain ⟨rfl, rfl⟩ := hq
    show Ev E m_ga_beyond 235 [(0, .ref 0), (1, .int x1), (2, .int x2), (3, .int x3), (4, .int x4), (5, .int x5), (6, .int x6), (7, .long x7), (9, .int x9)] [.int (bz (!decide (0 = 0)))] X_4 (0, 0) Q
    exact ev_iret (pc := 235) ⟨Nat.le_of_ble_eq_true rfl, Nat.le_of_ble_eq_true rfl⟩ d_ga_beyond_235 rfl (vp_nar_int _) h_11
  · have h_12 := h_7.2 c_10
    refine ev_iconst (v := 1) (pc := 227) d_ga_beyond_227 kc_i_1 ?_
    refine ev_goto (pc := 228) (tgt := 232) d_ga_beyond_228 (by decide) ?_
    refine ev_callS (z := m_ga_flag) (as := [.int 1]) (rest := []) (pc := 232) d_ga_beyond_232 l_ga_115 i_ga_flag o_ga_flag rfl rfl (Nat.le_of_ble_eq_true rfl) rfl (Nat.le_of_ble_eq_true rfl) ⟨Nat.le_of_ble_eq_true rfl, Nat.le_of_ble_eq_true rfl⟩ (s_ga_flag hX_8 1) (fun r X1 hq => ?_)
    obtain ⟨rfl, rfl⟩ := hq
    show Ev E m_ga_beyond 235 [(0, .ref 0), (1, .int x1), (2, .int x2), (3, .int x3), (4, .int x4), (5, .int x5), (6, .int x6), (7, .long x7), (9, .int x9)] [.int (bz (!decide (1 = 0)))] X_4 (0, 0) Q
    exact ev_iret (pc := 235) ⟨Nat.le_of_ble_eq_true rfl, Nat.le_of_ble_eq_true rfl⟩ d_ga_beyond_235 rfl (vp_nar_int _) h_12
theorem b_ga_choose_0 {E : gp_E} {S : gp_S} {X : gp_H} {Q : Option Value → gp_H → Prop} {x0 : Int32} {x1 : Int32} (hX : Lay S X)  (hh : ((x1 < 0 → Q (some (.long 0)) X) ∧ (¬ x1 < 0 → ((x1 ≤ x0 → Ev E m_ga_choose 16 [(0, .int x0), (1, .int x1), (2, .long 1), (4, .int 1)] [] X (0, 0) Q) ∧ (¬ x1 ≤ x0 → Q (some (.long 0)) X))))) : Ev E m_ga_choose 0 [(0, .int x0), (1, .int x1)] [] X (0, 0) Q := by
  refine ev_iload_n (x := x1) (pc := 0) d_ga_choose_0 rfl ?_
  refine ev_if_lt (pc := 1) (tgt := 9) d_ga_choose_1 (by decide) (fun c_1 => ?_) (fun c_1 => ?_)
  · have h_2 := hh.1 c_1
    refine ev_lconst (v := 0) (pc := 9) d_ga_choose_9 rfl ?_
    exact ev_lret (pc := 10) ⟨Nat.le_of_ble_eq_true rfl, Nat.le_of_ble_eq_true rfl⟩ d_ga_choose_10 rfl h_2
  · have h_3 := hh.2 c_1
    refine ev_iload_n (x := x1) (pc := 4) d_ga_choose_4 rfl ?_
    refine ev_iload_n (x := x0) (pc := 5) d_ga_choose_5 rfl ?_
    refine ev_icmp_le (pc := 6) (tgt := 11) d_ga_choose_6 (by decide) (fun c_4 => ?_) (fun c_4 => ?_)
    · have h_5 := h_3.1 c_4
      refine ev_lconst (v := 1) (pc := 11) d_ga_choose_11 rfl ?_
      refine ev_lstore_n (L2 := [(0, .int x0), (1, .int x1), (2, .long 1)]) (pc := 12) d_ga_choose_12 rfl rfl (Nat.le_of_ble_eq_true rfl) rfl ?_
      refine ev_iconst (v := 1) (pc := 13) d_ga_choose_13 kc_i_1 ?_
      refine ev_istore (L2 := [(0, .int x0), (1, .int x1), (2, .long 1), (4, .int 1)]) (pc := 14) d_ga_choose_14 rfl (Nat.le_of_ble_eq_true rfl) rfl ?_
      exact h_5
    · have h_6 := h_3.2 c_4
      refine ev_lconst (v := 0) (pc := 9) d_ga_choose_9 rfl ?_
      exact ev_lret (pc := 10) ⟨Nat.le_of_ble_eq_true rfl, Nat.le_of_ble_eq_true rfl⟩ d_ga_choose_10 rfl h_6
theorem b_ga_choose_16 {E : gp_E} {S : gp_S} {X : gp_H} {Q : Option Value → gp_H → Prop} {x0 : Int32} {x1 : Int32} {x2 : Int64} {x4 : Int32} (hX : Lay S X)  (hh : ((x1 < x4 → Q (some (.long x2)) X) ∧ (¬ x1 < x4 → (¬ (Int32.toInt64 x4) = 0 ∧ Ev E m_ga_choose 16 [(0, .int x0), (1, .int x1), (2, .long ((x2 * (Int32.toInt64 ((x0 - x1) + x4))) / (Int32.toInt64 x4))), (4, .int (x4 + 1))] [] X (0, 0) Q)))) : Ev E m_ga_choose 16 [(0, .int x0), (1, .int x1), (2, .long x2), (4, .int x4)] [] X (0, 0) Q := by
  refine ev_iload (x := x4) (pc := 16) d_ga_choose_16 rfl ?_
  refine ev_iload_n (x := x1) (pc := 18) d_ga_choose_18 rfl ?_
  refine ev_icmp_gt (pc := 19) (tgt := 42) d_ga_choose_19 (by decide) (fun c_1 => ?_) (fun c_1 => ?_)
  · have h_2 := hh.1 c_1
    refine ev_lload_n (x := x2) (pc := 42) d_ga_choose_42 rfl ?_
    exact ev_lret (pc := 43) ⟨Nat.le_of_ble_eq_true rfl, Nat.le_of_ble_eq_true rfl⟩ d_ga_choose_43 rfl h_2
  · have h_3 := hh.2 c_1
    refine ev_lload_n (x := x2) (pc := 22) d_ga_choose_22 rfl ?_
    refine ev_iload_n (x := x0) (pc := 23) d_ga_choose_23 rfl ?_
    refine ev_iload_n (x := x1) (pc := 24) d_ga_choose_24 rfl ?_
    refine ev_isub (pc := 25) d_ga_choose_25 ?_
    refine ev_iload (x := x4) (pc := 26) d_ga_choose_26 rfl ?_
    refine ev_iadd (pc := 28) d_ga_choose_28 ?_
    refine ev_i2l (pc := 29) d_ga_choose_29 ?_
    refine ev_lmul (pc := 30) d_ga_choose_30 ?_
    refine ev_iload (x := x4) (pc := 31) d_ga_choose_31 rfl ?_
    refine ev_i2l (pc := 33) d_ga_choose_33 ?_
    refine ev_ldiv (pc := 34) d_ga_choose_34 h_3.1 ?_
    refine ev_lstore_n (L2 := [(0, .int x0), (1, .int x1), (2, .long ((x2 * (Int32.toInt64 ((x0 - x1) + x4))) / (Int32.toInt64 x4))), (4, .int x4)]) (pc := 35) d_ga_choose_35 rfl rfl (Nat.le_of_ble_eq_true rfl) rfl ?_
    refine ev_iinc (v := (x4 + 1)) (L2 := [(0, .int x0), (1, .int x1), (2, .long ((x2 * (Int32.toInt64 ((x0 - x1) + x4))) / (Int32.toInt64 x4))), (4, .int (x4 + 1))]) (pc := 36) d_ga_choose_36 rfl (by rw [kc_i_1]) rfl (Nat.le_of_ble_eq_true rfl) rfl ?_
    refine ev_goto (pc := 39) (tgt := 16) d_ga_choose_39 (by decide) ?_
    exact h_3.2
theorem b_ga_feed_0 {E : gp_E} {S : gp_S} {X : gp_H} {Q : Option Value → gp_H → Prop} {x1 : Int32} {x2 : Int32} (hX : Lay S X)  (hh : (((iw x2 0 4) = true → ((((gI X 40 0) + x2) ≤ 60 → (∃ Qz_7, Ev E m_la_addBytes 0 [(0, .ref 40), (1, .int x1), (2, .int x2)] [] X (0, 0) Qz_7 ∧ ∀ r X_10, Qz_7 r X_10 → ∃ v_15 : Int32, r = some (.int v_15) ∧ Lay S X_10 ∧ Q (some (.int v_15)) X_10)) ∧ (¬ ((gI X 40 0) + x2) ≤ 60 → Q (some (.int (-4))) X))) ∧ ((iw x2 0 4) = false → Q (some (.int (-2))) X))) : Ev E m_ga_feed 0 [(0, .ref 0), (1, .int x1), (2, .int x2)] [] X (0, 0) Q := by
  refine ev_iload_n (x := x2) (pc := 0) d_ga_feed_0 rfl ?_
  refine ev_iconst (v := 0) (pc := 1) d_ga_feed_1 kc_i_0 ?_
  refine ev_iconst (v := 4) (pc := 2) d_ga_feed_2 kc_i_4 ?_
  refine ev_callS (z := m_ga_isWithin) (as := [.int x2, .int 0, .int 4]) (rest := []) (pc := 3) d_ga_feed_3 l_ga_128 i_ga_isWithin o_ga_isWithin rfl rfl (Nat.le_of_ble_eq_true rfl) rfl (Nat.le_of_ble_eq_true rfl) ⟨Nat.le_of_ble_eq_true rfl, Nat.le_of_ble_eq_true rfl⟩ (s_ga_isWithin hX x2 0 4) (fun r X1 hq => ?_)
  obtain ⟨rfl, rfl⟩ := hq
  show Ev E m_ga_feed 6 [(0, .ref 0), (1, .int x1), (2, .int x2)] [.int (bz (iw x2 0 4))] X (0, 0) Q
  refine ev_ifz_ne (pc := 6) (tgt := 12) d_ga_feed_6 (by decide) (fun c_1 => ?_) (fun c_1 => ?_)
  · have h_2 := hh.1 c_1
    refine ev_aload_n (x := 0) (pc := 12) d_ga_feed_12 rfl ?_
    refine ev_getR (pc := 13) d_ga_feed_13 f_ga_76 (ly_at hX 0 rfl) gg_11 rfl (ly_rf hX 0 18 rfl) ?_
    refine ev_getJ (v := (gI X 40 0)) (pc := 16) d_ga_feed_16 f_ga_415 (ly_at hX 40 rfl) gg_4 rfl rfl ?_
    refine ev_iload_n (x := x2) (pc := 19) d_ga_feed_19 rfl ?_
    refine ev_iadd (pc := 20) d_ga_feed_20 ?_
    refine ev_bipush (v := 60) (pc := 21) d_ga_feed_21 kc_b_60 ?_
    refine ev_icmp_le (pc := 23) (tgt := 29) d_ga_feed_23 (by decide) (fun c_4 => ?_) (fun c_4 => ?_)
    · have h_5 := h_2.1 c_4
      refine ev_aload_n (x := 0) (pc := 29) d_ga_feed_29 rfl ?_
      refine ev_getR (pc := 30) d_ga_feed_30 f_ga_76 (ly_at hX 0 rfl) gg_11 rfl (ly_rf hX 0 18 rfl) ?_
      refine ev_iload_n (x := x1) (pc := 33) d_ga_feed_33 rfl ?_
      refine ev_iload_n (x := x2) (pc := 34) d_ga_feed_34 rfl ?_
      obtain ⟨Qz_7, hc_8, hk_9⟩ := h_5
      refine ev_callV (z := m_la_addBytes) (as := [.int x1, .int x2]) (rest := []) (pc := 35) d_ga_feed_35 (ly_at hX 40 rfl) lt13_4 rfl l_ga_418 i_la_addBytes v_la_addBytes o_la_addBytes rfl rfl (Nat.le_of_ble_eq_true rfl) rfl (Nat.le_of_ble_eq_true rfl) ⟨Nat.le_of_ble_eq_true rfl, Nat.le_of_ble_eq_true rfl⟩ hc_8 (fun r_11 X_10 hq_12 => ?_)
      obtain ⟨v_15, rfl, hX_14, h_13⟩ := hk_9 _ _ hq_12
      show Ev E m_ga_feed 38 [(0, .ref 0), (1, .int x1), (2, .int x2)] [.int v_15] X_10 (0, 0) Q
      exact ev_iret (pc := 38) ⟨Nat.le_of_ble_eq_true rfl, Nat.le_of_ble_eq_true rfl⟩ d_ga_feed_38 rfl (vp_nar_int _) h_13
    · have h_6 := h_2.2 c_4
      refine ev_bipush (v := (-4)) (pc := 26) d_ga_feed_26 kc_b_m4 ?_
      exact ev_iret (pc := 28) ⟨Nat.le_of_ble_eq_true rfl, Nat.le_of_ble_eq_true rfl⟩ d_ga_feed_28 rfl (vp_nar_int _) h_6
  · have h_3 := hh.2 c_1
    refine ev_bipush (v := (-2)) (pc := 9) d_ga_feed_9 kc_b_m2 ?_
    exact ev_iret (pc := 11) ⟨Nat.le_of_ble_eq_true rfl, Nat.le_of_ble_eq_true rfl⟩ d_ga_feed_11 rfl (vp_nar_int _) h_3
theorem b_ga_law_0 {E : gp_E} {S : gp_S} {X : gp_H} {Q : Option Value → gp_H → Prop}  (hX : Lay S X)  (hh : (((gI X 40 2) < 10 → (∃ Qz_4, Ev E m_la_readTape 0 [(0, .ref 40)] [] X (0, 0) Qz_4 ∧ ∀ r X_7, Qz_4 r X_7 → ∃ v_12 : Int32, r = some (.int v_12) ∧ Lay S X_7 ∧ Q (some (.int v_12)) X_7)) ∧ (¬ (gI X 40 2) < 10 → Q (some (.int (-4))) X))) : Ev E m_ga_law 0 [(0, .ref 0)] [] X (0, 0) Q := by
  refine ev_aload_n (x := 0) (pc := 0) d_ga_law_0 rfl ?_
  refine ev_getR (pc := 1) d_ga_law_1 f_ga_76 (ly_at hX 0 rfl) gg_11 rfl (ly_rf hX 0 18 rfl) ?_
  refine ev_getJ (v := (gI X 40 2)) (pc := 4) d_ga_law_4 f_ga_421 (ly_at hX 40 rfl) gg_4 rfl rfl ?_
  refine ev_bipush (v := 10) (pc := 7) d_ga_law_7 kc_b_10 ?_
  refine ev_icmp_lt (pc := 9) (tgt := 15) d_ga_law_9 (by decide) (fun c_1 => ?_) (fun c_1 => ?_)
  · have h_2 := hh.1 c_1
    refine ev_aload_n (x := 0) (pc := 15) d_ga_law_15 rfl ?_
    refine ev_getR (pc := 16) d_ga_law_16 f_ga_76 (ly_at hX 0 rfl) gg_11 rfl (ly_rf hX 0 18 rfl) ?_
    obtain ⟨Qz_4, hc_5, hk_6⟩ := h_2
    refine ev_callV (z := m_la_readTape) (as := []) (rest := []) (pc := 19) d_ga_law_19 (ly_at hX 40 rfl) lt13_4 rfl l_ga_422 i_la_readTape v_la_readTape o_la_readTape rfl rfl (Nat.le_of_ble_eq_true rfl) rfl (Nat.le_of_ble_eq_true rfl) ⟨Nat.le_of_ble_eq_true rfl, Nat.le_of_ble_eq_true rfl⟩ hc_5 (fun r_8 X_7 hq_9 => ?_)
    obtain ⟨v_12, rfl, hX_11, h_10⟩ := hk_6 _ _ hq_9
    show Ev E m_ga_law 22 [(0, .ref 0)] [.int v_12] X_7 (0, 0) Q
    exact ev_iret (pc := 22) ⟨Nat.le_of_ble_eq_true rfl, Nat.le_of_ble_eq_true rfl⟩ d_ga_law_22 rfl (vp_nar_int _) h_10
  · have h_3 := hh.2 c_1
    refine ev_bipush (v := (-4)) (pc := 12) d_ga_law_12 kc_b_m4 ?_
    exact ev_iret (pc := 14) ⟨Nat.le_of_ble_eq_true rfl, Nat.le_of_ble_eq_true rfl⟩ d_ga_law_14 rfl (vp_nar_int _) h_3
theorem b_ga_bill_0 {E : gp_E} {S : gp_S} {X : gp_H} {Q : Option Value → gp_H → Prop} {x1 : Int32} (hX : Lay S X)  (hh : (∃ Qz_1, Ev E m_ga_homeAt 0 [(0, .ref 0), (1, .int x1)] [] X (0, 0) Qz_1 ∧ ∀ r X_4, Qz_1 r X_4 → ((∃ a_10 : Nat, r = some (.ref a_10) ∧ gp_at X_4 a_10 (3, 0) ∧ Lay S X_4 ∧ (((gI X_4 a_10 4) = 1 → (∃ r_16 k_17 : Nat, X_4.2.2.1 a_10 3 = some r_16 ∧ gp_at X_4 r_16 (k_17, 0) ∧ (k_17 < 13 ∧ gp_gid k_17 = 7) ∧ (∃ Qz_22, Ev E m_la_payFor 0 [(0, .ref 40), (1, .int (gI X_4 r_16 5)), (2, .int (gI X_4 a_10 6))] [] X_4 (0, 0) Qz_22 ∧ ∀ r X_25, Qz_22 r X_25 → ∃ v_31 : Int32, r = some (.int v_31) ∧ Lay S X_25 ∧ gp_at X_25 a_10 (3, 0) ∧ Q (some (.int v_31)) X_25))) ∧ (¬ (gI X_4 a_10 4) = 1 → Q (some (.int 0)) X_4))) ∨ (r = some .null ∧ Lay S X_4 ∧ Q (some (.int (-1))) X_4)))) : Ev E m_ga_bill 0 [(0, .ref 0), (1, .int x1)] [] X (0, 0) Q := by
  refine ev_aload_n (x := 0) (pc := 0) d_ga_bill_0 rfl ?_
  refine ev_iload_n (x := x1) (pc := 1) d_ga_bill_1 rfl ?_
  obtain ⟨Qz_1, hc_2, hk_3⟩ := hh
  refine ev_callV (z := m_ga_homeAt) (as := [.int x1]) (rest := []) (pc := 2) d_ga_bill_2 (ly_at hX 0 rfl) lt13_11 rfl l_ga_204 i_ga_homeAt v_ga_homeAt o_ga_homeAt rfl rfl (Nat.le_of_ble_eq_true rfl) rfl (Nat.le_of_ble_eq_true rfl) ⟨Nat.le_of_ble_eq_true rfl, Nat.le_of_ble_eq_true rfl⟩ hc_2 (fun r_5 X_4 hq_6 => ?_)
  rcases hk_3 _ _ hq_6 with ⟨a_10, rfl, hb_11, hX_8, h_7⟩ | ⟨rfl, hX_8, h_12⟩
  · show Ev E m_ga_bill 5 [(0, .ref 0), (1, .int x1)] [.ref a_10] X_4 (0, 0) Q
    refine ev_astore_n (L2 := [(0, .ref 0), (1, .int x1), (2, .ref a_10)]) (pc := 5) d_ga_bill_5 rfl (Nat.le_of_ble_eq_true rfl) rfl ?_
    refine ev_aload_n (x := a_10) (pc := 6) d_ga_bill_6 rfl ?_
    refine ev_ifnonnull (pc := 7) (tgt := 12) d_ga_bill_7 (by decide) ?_
    refine ev_aload_n (x := a_10) (pc := 12) d_ga_bill_12 rfl ?_
    refine ev_getJ (v := (gI X_4 a_10 4)) (pc := 13) d_ga_bill_13 f_ga_249 hb_11 gg_3 rfl rfl ?_
    refine ev_iconst (v := 1) (pc := 16) d_ga_bill_16 kc_i_1 ?_
    refine ev_icmp_eq (pc := 17) (tgt := 22) d_ga_bill_17 (by decide) (fun c_13 => ?_) (fun c_13 => ?_)
    · have h_14 := h_7.1 c_13
      refine ev_aload_n (x := 0) (pc := 22) d_ga_bill_22 rfl ?_
      refine ev_getR (pc := 23) d_ga_bill_23 f_ga_76 (ly_at hX_8 0 rfl) gg_11 rfl (ly_rf hX_8 0 18 rfl) ?_
      refine ev_aload_n (x := a_10) (pc := 26) d_ga_bill_26 rfl ?_
      obtain ⟨r_16, k_17, hq_19, hb_18, hg_20, h_21⟩ := h_14
      refine ev_getR (pc := 27) d_ga_bill_27 f_ga_354 hb_11 gg_3 rfl hq_19 ?_
      refine ev_getJ (v := (gI X_4 r_16 5)) (pc := 30) d_ga_bill_30 f_ga_358 hb_18 hg_20 rfl rfl ?_
      refine ev_aload_n (x := a_10) (pc := 33) d_ga_bill_33 rfl ?_
      refine ev_getJ (v := (gI X_4 a_10 6)) (pc := 34) d_ga_bill_34 f_ga_255 hb_11 gg_3 rfl rfl ?_
      obtain ⟨Qz_22, hc_23, hk_24⟩ := h_21
      refine ev_callV (z := m_la_payFor) (as := [.int (gI X_4 r_16 5), .int (gI X_4 a_10 6)]) (rest := []) (pc := 37) d_ga_bill_37 (ly_at hX_8 40 rfl) lt13_4 rfl l_ga_425 i_la_payFor v_la_payFor o_la_payFor rfl rfl (Nat.le_of_ble_eq_true rfl) rfl (Nat.le_of_ble_eq_true rfl) ⟨Nat.le_of_ble_eq_true rfl, Nat.le_of_ble_eq_true rfl⟩ hc_23 (fun r_26 X_25 hq_27 => ?_)
      obtain ⟨v_31, rfl, hX_29, hm_30, h_28⟩ := hk_24 _ _ hq_27
      show Ev E m_ga_bill 40 [(0, .ref 0), (1, .int x1), (2, .ref a_10)] [.int v_31] X_25 (0, 0) Q
      exact ev_iret (pc := 40) ⟨Nat.le_of_ble_eq_true rfl, Nat.le_of_ble_eq_true rfl⟩ d_ga_bill_40 rfl (vp_nar_int _) h_28
    · have h_15 := h_7.2 c_13
      refine ev_iconst (v := 0) (pc := 20) d_ga_bill_20 kc_i_0 ?_
      exact ev_iret (pc := 21) ⟨Nat.le_of_ble_eq_true rfl, Nat.le_of_ble_eq_true rfl⟩ d_ga_bill_21 rfl (vp_nar_int _) h_15
  · show Ev E m_ga_bill 5 [(0, .ref 0), (1, .int x1)] [.null] X_4 (0, 0) Q
    refine ev_astore_nN (L2 := [(0, .ref 0), (1, .int x1), (2, .null)]) (pc := 5) d_ga_bill_5 rfl (Nat.le_of_ble_eq_true rfl) rfl ?_
    refine ev_aload_nN  (pc := 6) d_ga_bill_6 rfl ?_
    refine ev_ifnonnullN (pc := 7) d_ga_bill_7 ?_
    refine ev_iconst (v := (-1)) (pc := 10) d_ga_bill_10 kc_i_m1 ?_
    exact ev_iret (pc := 11) ⟨Nat.le_of_ble_eq_true rfl, Nat.le_of_ble_eq_true rfl⟩ d_ga_bill_11 rfl (vp_nar_int _) h_12
theorem b_ga_act_0 {E : gp_E} {S : gp_S} {X : gp_H} {Q : Option Value → gp_H → Prop} {x1 : Int32} {x2 : Int32} {x3 : Int32} (hX : Lay S X)  (hh : (∃ Qz_1, Ev E m_ga_modelAt 0 [(0, .ref 0), (1, .int x1)] [] (gp_sI X 13 1 0) (0, 0) Qz_1 ∧ ∀ r X_4, Qz_1 r X_4 → ((∃ a_10 k_12 : Nat, r = some (.ref a_10) ∧ gp_at X_4 a_10 (k_12, 0) ∧ (k_12 < 13 ∧ gp_gid k_12 = 7) ∧ Lay S X_4 ∧ (((x2.toInt < 0 ∨ 2 < x2.toInt) → Q (some (.int 0)) X_4) ∧ (x2 = 0 → (∃ Qz_17, ((k_12 = 1 → Ev E m_fi_burns 0 [(0, .ref a_10), (1, .int x3)] [] X_4 (0, 0) Qz_17) ∧ (k_12 = 2 → Ev E m_gr_burns 0 [(0, .ref a_10), (1, .int x3)] [] X_4 (0, 0) Qz_17) ∧ (k_12 = 6 → Ev E m_ri_burns 0 [(0, .ref a_10), (1, .int x3)] [] X_4 (0, 0) Qz_17) ∧ (k_12 = 7 → Ev E m_ri_burns 0 [(0, .ref a_10), (1, .int x3)] [] X_4 (0, 0) Qz_17)) ∧ ∀ r X_20, Qz_17 r X_20 → ∃ v_25 : Int32, r = some (.int v_25) ∧ Lay S X_20 ∧ gp_at X_20 a_10 (k_12, 0) ∧ Q (some (.int v_25)) X_20)) ∧ (x2 = 1 → (∃ Qz_29, ((k_12 = 1 → Ev E m_fi_warms 0 [(0, .ref a_10), (1, .int x3)] [] X_4 (0, 0) Qz_29) ∧ (k_12 = 2 → Ev E m_ov_warms 0 [(0, .ref a_10), (1, .int x3)] [] X_4 (0, 0) Qz_29) ∧ (k_12 = 6 → Ev E m_ov_warms 0 [(0, .ref a_10), (1, .int x3)] [] X_4 (0, 0) Qz_29) ∧ (k_12 = 7 → Ev E m_ri_warms 0 [(0, .ref a_10), (1, .int x3)] [] X_4 (0, 0) Qz_29)) ∧ ∀ r X_32, Qz_29 r X_32 → ∃ v_37 : Int32, r = some (.int v_37) ∧ Lay S X_32 ∧ gp_at X_32 a_10 (k_12, 0) ∧ Q (some (.int v_37)) X_32)) ∧ (x2 = 2 → (∃ Qz_41, ((k_12 = 1 → Ev E m_ri_fits 0 [(0, .ref a_10), (1, .int x3)] [] X_4 (0, 0) Qz_41) ∧ (k_12 = 2 → Ev E m_gr_fits 0 [(0, .ref a_10), (1, .int x3)] [] X_4 (0, 0) Qz_41) ∧ (k_12 = 6 → Ev E m_ri_fits 0 [(0, .ref a_10), (1, .int x3)] [] X_4 (0, 0) Qz_41) ∧ (k_12 = 7 → Ev E m_ri_fits 0 [(0, .ref a_10), (1, .int x3)] [] X_4 (0, 0) Qz_41)) ∧ ∀ r X_44, Qz_41 r X_44 → ∃ v_49 : Int32, r = some (.int v_49) ∧ Lay S X_44 ∧ gp_at X_44 a_10 (k_12, 0) ∧ Q (some (.int v_49)) X_44)))) ∨ (r = some .null ∧ Lay S X_4 ∧ Q (some (.int 0)) X_4)))) : Ev E m_ga_act 0 [(0, .ref 0), (1, .int x1), (2, .int x2), (3, .int x3)] [] X (0, 0) Q := by
  refine ev_aload_n (x := 0) (pc := 0) d_ga_act_0 rfl ?_
  refine ev_getR (pc := 1) d_ga_act_1 f_ga_23 (ly_at hX 0 rfl) gg_11 rfl (ly_rf hX 0 2 rfl) ?_
  refine ev_iconst (v := 0) (pc := 4) d_ga_act_4 kc_i_0 ?_
  refine ev_putI (pc := 5) d_ga_act_5 f_ga_428 (ly_at hX 13 rfl) gg_10 rfl (Or.inl rfl) (vp_nar_int _) rfl ?_
  refine ev_aload_n (x := 0) (pc := 8) d_ga_act_8 rfl ?_
  refine ev_iload_n (x := x1) (pc := 9) d_ga_act_9 rfl ?_
  obtain ⟨Qz_1, hc_2, hk_3⟩ := hh
  refine ev_callV (z := m_ga_modelAt) (as := [.int x1]) (rest := []) (pc := 10) d_ga_act_10 (ly_at (ly_sI hX) 0 rfl) lt13_11 rfl l_ga_194 i_ga_modelAt v_ga_modelAt o_ga_modelAt rfl rfl (Nat.le_of_ble_eq_true rfl) rfl (Nat.le_of_ble_eq_true rfl) ⟨Nat.le_of_ble_eq_true rfl, Nat.le_of_ble_eq_true rfl⟩ hc_2 (fun r_5 X_4 hq_6 => ?_)
  rcases hk_3 _ _ hq_6 with ⟨a_10, k_12, rfl, hb_11, hg_13, hX_8, h_7⟩ | ⟨rfl, hX_8, h_14⟩
  · show Ev E m_ga_act 13 [(0, .ref 0), (1, .int x1), (2, .int x2), (3, .int x3)] [.ref a_10] X_4 (0, 0) Q
    refine ev_astore (L2 := [(0, .ref 0), (1, .int x1), (2, .int x2), (3, .int x3), (4, .ref a_10)]) (pc := 13) d_ga_act_13 rfl (Nat.le_of_ble_eq_true rfl) rfl ?_
    refine ev_aload (x := a_10) (pc := 15) d_ga_act_15 rfl ?_
    refine ev_ifnonnull (pc := 17) (tgt := 22) d_ga_act_17 (by decide) ?_
    refine ev_iload_n (x := x2) (pc := 22) d_ga_act_22 rfl ?_
    rcases gp_tab (lo := 0) (n := 3) x2 with c_52 | ⟨k, hk, c_52⟩
    · have h_15 := h_7.1 (by omega)
      refine ev_tableOut (pc := 23) (tgt := 69) d_ga_act_23 (by omega) (by decide) ?_
      refine ev_iconst (v := 0) (pc := 69) d_ga_act_69 kc_i_0 ?_
      exact ev_iret (pc := 70) ⟨Nat.le_of_ble_eq_true rfl, Nat.le_of_ble_eq_true rfl⟩ d_ga_act_70 rfl (vp_nar_int _) h_15
    · match k, hk, c_52 with
      | 0, _, c_52 =>
        have c_52e : x2 = 0 := gp_eqi (c_52.trans (by decide : (0 : Int) + ((0 : Nat) : Int) = 0)) (by decide)
        have h_16 := h_7.2.1 c_52e
        refine ev_tableIn (pc := 23) (off := 25) (tgt := 48) d_ga_act_23 (by rw [c_52e]; decide) (by rw [c_52e]; decide) (by rw [c_52e]; decide) (by decide) ?_
        refine ev_aload (x := a_10) (pc := 48) d_ga_act_48 rfl ?_
        refine ev_iload_n (x := x3) (pc := 50) d_ga_act_50 rfl ?_
        obtain ⟨Qz_17, hc_18, hk_19⟩ := h_16
        have kk_27 : ∀ r X_20, Qz_17 r X_20 → Ev E m_ga_act 54 [(0, .ref 0), (1, .int x1), (2, .int x2), (3, .int x3), (4, .ref a_10)] (r.toList ++ []) X_20 (0, 0) Q := by
          intro r_21 X_20 hq_22
          obtain ⟨v_25, rfl, hX_24, hm_26, h_23⟩ := hk_19 _ _ hq_22
          show Ev E m_ga_act 54 [(0, .ref 0), (1, .int x1), (2, .int x2), (3, .int x3), (4, .ref a_10)] [.int v_25] X_20 (0, 0) Q
          exact ev_iret (pc := 54) ⟨Nat.le_of_ble_eq_true rfl, Nat.le_of_ble_eq_true rfl⟩ d_ga_act_54 rfl (vp_nar_int _) h_23
        have hat := hb_11
        rcases gp_ring hg_13 with e | e | e | e
        · have hz := hc_18.1 e
          rw [e] at hat
          exact ev_callU (z := m_fi_burns) (as := [.int x3]) (rest := []) (owner := "GasTurn$Ring") (pc := 51) d_ga_act_51 hat lt13_1 l_ga_431 e_ri_ri_burns i_ri_burns o_ri_burns.2.2.2.1 i_fi_burns w_fi_ri_burns_fi_burns ⟨by decide, by decide, o_ri_burns.1⟩ o_fi_burns rfl rfl (Nat.le_of_ble_eq_true rfl) rfl (Nat.le_of_ble_eq_true rfl) ⟨Nat.le_of_ble_eq_true rfl, Nat.le_of_ble_eq_true rfl⟩ hz kk_27
        · have hz := hc_18.2.1 e
          rw [e] at hat
          exact ev_callU (z := m_gr_burns) (as := [.int x3]) (rest := []) (owner := "GasTurn$Ring") (pc := 51) d_ga_act_51 hat lt13_2 l_ga_431 e_ri_ri_burns i_ri_burns o_ri_burns.2.2.2.1 i_gr_burns w_gr_ri_burns_gr_burns ⟨by decide, by decide, o_ri_burns.1⟩ o_gr_burns rfl rfl (Nat.le_of_ble_eq_true rfl) rfl (Nat.le_of_ble_eq_true rfl) ⟨Nat.le_of_ble_eq_true rfl, Nat.le_of_ble_eq_true rfl⟩ hz kk_27
        · have hz := hc_18.2.2.1 e
          rw [e] at hat
          exact ev_callU (z := m_ri_burns) (as := [.int x3]) (rest := []) (owner := "GasTurn$Ring") (pc := 51) d_ga_act_51 hat lt13_6 l_ga_431 e_ri_ri_burns i_ri_burns o_ri_burns.2.2.2.1 i_ri_burns w_ov_ri_burns_ri_burns ⟨by decide, by decide, o_ri_burns.1⟩ o_ri_burns rfl rfl (Nat.le_of_ble_eq_true rfl) rfl (Nat.le_of_ble_eq_true rfl) ⟨Nat.le_of_ble_eq_true rfl, Nat.le_of_ble_eq_true rfl⟩ hz kk_27
        · have hz := hc_18.2.2.2 e
          rw [e] at hat
          exact ev_callU (z := m_ri_burns) (as := [.int x3]) (rest := []) (owner := "GasTurn$Ring") (pc := 51) d_ga_act_51 hat lt13_7 l_ga_431 e_ri_ri_burns i_ri_burns o_ri_burns.2.2.2.1 i_ri_burns w_ri_ri_burns_ri_burns ⟨by decide, by decide, o_ri_burns.1⟩ o_ri_burns rfl rfl (Nat.le_of_ble_eq_true rfl) rfl (Nat.le_of_ble_eq_true rfl) ⟨Nat.le_of_ble_eq_true rfl, Nat.le_of_ble_eq_true rfl⟩ hz kk_27
      | 1, _, c_52 =>
        have c_52e : x2 = 1 := gp_eqi (c_52.trans (by decide : (0 : Int) + ((1 : Nat) : Int) = 1)) (by decide)
        have h_28 := h_7.2.2.1 c_52e
        refine ev_tableIn (pc := 23) (off := 32) (tgt := 55) d_ga_act_23 (by rw [c_52e]; decide) (by rw [c_52e]; decide) (by rw [c_52e]; decide) (by decide) ?_
        refine ev_aload (x := a_10) (pc := 55) d_ga_act_55 rfl ?_
        refine ev_iload_n (x := x3) (pc := 57) d_ga_act_57 rfl ?_
        obtain ⟨Qz_29, hc_30, hk_31⟩ := h_28
        have kk_39 : ∀ r X_32, Qz_29 r X_32 → Ev E m_ga_act 61 [(0, .ref 0), (1, .int x1), (2, .int x2), (3, .int x3), (4, .ref a_10)] (r.toList ++ []) X_32 (0, 0) Q := by
          intro r_33 X_32 hq_34
          obtain ⟨v_37, rfl, hX_36, hm_38, h_35⟩ := hk_31 _ _ hq_34
          show Ev E m_ga_act 61 [(0, .ref 0), (1, .int x1), (2, .int x2), (3, .int x3), (4, .ref a_10)] [.int v_37] X_32 (0, 0) Q
          exact ev_iret (pc := 61) ⟨Nat.le_of_ble_eq_true rfl, Nat.le_of_ble_eq_true rfl⟩ d_ga_act_61 rfl (vp_nar_int _) h_35
        have hat := hb_11
        rcases gp_ring hg_13 with e | e | e | e
        · have hz := hc_30.1 e
          rw [e] at hat
          exact ev_callU (z := m_fi_warms) (as := [.int x3]) (rest := []) (owner := "GasTurn$Ring") (pc := 58) d_ga_act_58 hat lt13_1 l_ga_434 e_ri_ri_warms i_ri_warms o_ri_warms.2.2.2.1 i_fi_warms w_fi_ri_warms_fi_warms ⟨by decide, by decide, o_ri_warms.1⟩ o_fi_warms rfl rfl (Nat.le_of_ble_eq_true rfl) rfl (Nat.le_of_ble_eq_true rfl) ⟨Nat.le_of_ble_eq_true rfl, Nat.le_of_ble_eq_true rfl⟩ hz kk_39
        · have hz := hc_30.2.1 e
          rw [e] at hat
          exact ev_callU (z := m_ov_warms) (as := [.int x3]) (rest := []) (owner := "GasTurn$Ring") (pc := 58) d_ga_act_58 hat lt13_2 l_ga_434 e_ri_ri_warms i_ri_warms o_ri_warms.2.2.2.1 i_ov_warms w_gr_ri_warms_ov_warms ⟨by decide, by decide, o_ri_warms.1⟩ o_ov_warms rfl rfl (Nat.le_of_ble_eq_true rfl) rfl (Nat.le_of_ble_eq_true rfl) ⟨Nat.le_of_ble_eq_true rfl, Nat.le_of_ble_eq_true rfl⟩ hz kk_39
        · have hz := hc_30.2.2.1 e
          rw [e] at hat
          exact ev_callU (z := m_ov_warms) (as := [.int x3]) (rest := []) (owner := "GasTurn$Ring") (pc := 58) d_ga_act_58 hat lt13_6 l_ga_434 e_ri_ri_warms i_ri_warms o_ri_warms.2.2.2.1 i_ov_warms w_ov_ri_warms_ov_warms ⟨by decide, by decide, o_ri_warms.1⟩ o_ov_warms rfl rfl (Nat.le_of_ble_eq_true rfl) rfl (Nat.le_of_ble_eq_true rfl) ⟨Nat.le_of_ble_eq_true rfl, Nat.le_of_ble_eq_true rfl⟩ hz kk_39
        · have hz := hc_30.2.2.2 e
          rw [e] at hat
          exact ev_callU (z := m_ri_warms) (as := [.int x3]) (rest := []) (owner := "GasTurn$Ring") (pc := 58) d_ga_act_58 hat lt13_7 l_ga_434 e_ri_ri_warms i_ri_warms o_ri_warms.2.2.2.1 i_ri_warms w_ri_ri_warms_ri_warms ⟨by decide, by decide, o_ri_warms.1⟩ o_ri_warms rfl rfl (Nat.le_of_ble_eq_true rfl) rfl (Nat.le_of_ble_eq_true rfl) ⟨Nat.le_of_ble_eq_true rfl, Nat.le_of_ble_eq_true rfl⟩ hz kk_39
      | 2, _, c_52 =>
        have c_52e : x2 = 2 := gp_eqi (c_52.trans (by decide : (0 : Int) + ((2 : Nat) : Int) = 2)) (by decide)
        have h_40 := h_7.2.2.2 c_52e
        refine ev_tableIn (pc := 23) (off := 39) (tgt := 62) d_ga_act_23 (by rw [c_52e]; decide) (by rw [c_52e]; decide) (by rw [c_52e]; decide) (by decide) ?_
        refine ev_aload (x := a_10) (pc := 62) d_ga_act_62 rfl ?_
        refine ev_iload_n (x := x3) (pc := 64) d_ga_act_64 rfl ?_
        obtain ⟨Qz_41, hc_42, hk_43⟩ := h_40
        have kk_51 : ∀ r X_44, Qz_41 r X_44 → Ev E m_ga_act 68 [(0, .ref 0), (1, .int x1), (2, .int x2), (3, .int x3), (4, .ref a_10)] (r.toList ++ []) X_44 (0, 0) Q := by
          intro r_45 X_44 hq_46
          obtain ⟨v_49, rfl, hX_48, hm_50, h_47⟩ := hk_43 _ _ hq_46
          show Ev E m_ga_act 68 [(0, .ref 0), (1, .int x1), (2, .int x2), (3, .int x3), (4, .ref a_10)] [.int v_49] X_44 (0, 0) Q
          exact ev_iret (pc := 68) ⟨Nat.le_of_ble_eq_true rfl, Nat.le_of_ble_eq_true rfl⟩ d_ga_act_68 rfl (vp_nar_int _) h_47
        have hat := hb_11
        rcases gp_ring hg_13 with e | e | e | e
        · have hz := hc_42.1 e
          rw [e] at hat
          exact ev_callU (z := m_ri_fits) (as := [.int x3]) (rest := []) (owner := "GasTurn$Ring") (pc := 65) d_ga_act_65 hat lt13_1 l_ga_437 e_ri_ri_fits i_ri_fits o_ri_fits.2.2.2.1 i_ri_fits w_fi_ri_fits_ri_fits ⟨by decide, by decide, o_ri_fits.1⟩ o_ri_fits rfl rfl (Nat.le_of_ble_eq_true rfl) rfl (Nat.le_of_ble_eq_true rfl) ⟨Nat.le_of_ble_eq_true rfl, Nat.le_of_ble_eq_true rfl⟩ hz kk_51
        · have hz := hc_42.2.1 e
          rw [e] at hat
          exact ev_callU (z := m_gr_fits) (as := [.int x3]) (rest := []) (owner := "GasTurn$Ring") (pc := 65) d_ga_act_65 hat lt13_2 l_ga_437 e_ri_ri_fits i_ri_fits o_ri_fits.2.2.2.1 i_gr_fits w_gr_ri_fits_gr_fits ⟨by decide, by decide, o_ri_fits.1⟩ o_gr_fits rfl rfl (Nat.le_of_ble_eq_true rfl) rfl (Nat.le_of_ble_eq_true rfl) ⟨Nat.le_of_ble_eq_true rfl, Nat.le_of_ble_eq_true rfl⟩ hz kk_51
        · have hz := hc_42.2.2.1 e
          rw [e] at hat
          exact ev_callU (z := m_ri_fits) (as := [.int x3]) (rest := []) (owner := "GasTurn$Ring") (pc := 65) d_ga_act_65 hat lt13_6 l_ga_437 e_ri_ri_fits i_ri_fits o_ri_fits.2.2.2.1 i_ri_fits w_ov_ri_fits_ri_fits ⟨by decide, by decide, o_ri_fits.1⟩ o_ri_fits rfl rfl (Nat.le_of_ble_eq_true rfl) rfl (Nat.le_of_ble_eq_true rfl) ⟨Nat.le_of_ble_eq_true rfl, Nat.le_of_ble_eq_true rfl⟩ hz kk_51
        · have hz := hc_42.2.2.2 e
          rw [e] at hat
          exact ev_callU (z := m_ri_fits) (as := [.int x3]) (rest := []) (owner := "GasTurn$Ring") (pc := 65) d_ga_act_65 hat lt13_7 l_ga_437 e_ri_ri_fits i_ri_fits o_ri_fits.2.2.2.1 i_ri_fits w_ri_ri_fits_ri_fits ⟨by decide, by decide, o_ri_fits.1⟩ o_ri_fits rfl rfl (Nat.le_of_ble_eq_true rfl) rfl (Nat.le_of_ble_eq_true rfl) ⟨Nat.le_of_ble_eq_true rfl, Nat.le_of_ble_eq_true rfl⟩ hz kk_51
      | k + 3, hk, _ => exact absurd hk (by omega)
  · show Ev E m_ga_act 13 [(0, .ref 0), (1, .int x1), (2, .int x2), (3, .int x3)] [.null] X_4 (0, 0) Q
    refine ev_astoreN (L2 := [(0, .ref 0), (1, .int x1), (2, .int x2), (3, .int x3), (4, .null)]) (pc := 13) d_ga_act_13 rfl (Nat.le_of_ble_eq_true rfl) rfl ?_
    refine ev_aloadN  (pc := 15) d_ga_act_15 rfl ?_
    refine ev_ifnonnullN (pc := 17) d_ga_act_17 ?_
    refine ev_iconst (v := 0) (pc := 20) d_ga_act_20 kc_i_0 ?_
    exact ev_iret (pc := 21) ⟨Nat.le_of_ble_eq_true rfl, Nat.le_of_ble_eq_true rfl⟩ d_ga_act_21 rfl (vp_nar_int _) h_14
theorem b_ga_trace_0 {E : gp_E} {S : gp_S} {X : gp_H} {Q : Option Value → gp_H → Prop} {x1 : Int32} (hX : Lay S X)  (hh : (((iw x1 0 ((if 20 < (gI X 13 1) then 20 else (gI X 13 1)) - 1)) = true → (vp_in x1 20 ∧ Q (some (.int (gI X 14 (Int32.toNatClampNeg x1)))) X)) ∧ ((iw x1 0 ((if 20 < (gI X 13 1) then 20 else (gI X 13 1)) - 1)) = false → Q (some (.int (-1))) X))) : Ev E m_ga_trace 0 [(0, .ref 0), (1, .int x1)] [] X (0, 0) Q := by
  refine ev_iload_n (x := x1) (pc := 0) d_ga_trace_0 rfl ?_
  refine ev_iconst (v := 0) (pc := 1) d_ga_trace_1 kc_i_0 ?_
  refine ev_aload_n (x := 0) (pc := 2) d_ga_trace_2 rfl ?_
  refine ev_getR (pc := 3) d_ga_trace_3 f_ga_23 (ly_at hX 0 rfl) gg_11 rfl (ly_rf hX 0 2 rfl) ?_
  refine ev_getJ (v := (gI X 13 1)) (pc := 6) d_ga_trace_6 f_ga_428 (ly_at hX 13 rfl) gg_10 rfl rfl ?_
  refine ev_bipush (v := 20) (pc := 9) d_ga_trace_9 kc_b_20 ?_
  refine ev_mmin (pc := 11) d_ga_trace_11 l_ga_440 ⟨Nat.le_of_ble_eq_true rfl, Nat.le_of_ble_eq_true rfl⟩ ⟨Nat.le_of_ble_eq_true rfl, Nat.le_of_ble_eq_true rfl⟩ ?_
  refine ev_iconst (v := 1) (pc := 14) d_ga_trace_14 kc_i_1 ?_
  refine ev_isub (pc := 15) d_ga_trace_15 ?_
  refine ev_callS (z := m_ga_isWithin) (as := [.int x1, .int 0, .int ((if 20 < (gI X 13 1) then 20 else (gI X 13 1)) - 1)]) (rest := []) (pc := 16) d_ga_trace_16 l_ga_128 i_ga_isWithin o_ga_isWithin rfl rfl (Nat.le_of_ble_eq_true rfl) rfl (Nat.le_of_ble_eq_true rfl) ⟨Nat.le_of_ble_eq_true rfl, Nat.le_of_ble_eq_true rfl⟩ (s_ga_isWithin hX x1 0 ((if 20 < (gI X 13 1) then 20 else (gI X 13 1)) - 1)) (fun r X1 hq => ?_)
  obtain ⟨rfl, rfl⟩ := hq
  show Ev E m_ga_trace 19 [(0, .ref 0), (1, .int x1)] [.int (bz (iw x1 0 ((if 20 < (gI X 13 1) then 20 else (gI X 13 1)) - 1)))] X (0, 0) Q
  refine ev_ifz_ne (pc := 19) (tgt := 24) d_ga_trace_19 (by decide) (fun c_1 => ?_) (fun c_1 => ?_)
  · have h_2 := hh.1 c_1
    refine ev_aload_n (x := 0) (pc := 24) d_ga_trace_24 rfl ?_
    refine ev_getR (pc := 25) d_ga_trace_25 f_ga_23 (ly_at hX 0 rfl) gg_11 rfl (ly_rf hX 0 2 rfl) ?_
    refine ev_getR (pc := 28) d_ga_trace_28 f_ga_445 (ly_at hX 13 rfl) gg_10 rfl (ly_rf hX 13 0 rfl) ?_
    refine ev_iload_n (x := x1) (pc := 31) d_ga_trace_31 rfl ?_
    refine ev_ialdJ (v := (gI X 14 (Int32.toNatClampNeg x1))) (pc := 32) d_ga_trace_32 (ly_at hX 14 rfl) h_2.1 rfl ?_
    exact ev_iret (pc := 33) ⟨Nat.le_of_ble_eq_true rfl, Nat.le_of_ble_eq_true rfl⟩ d_ga_trace_33 rfl (vp_nar_int _) h_2.2
  · have h_3 := hh.2 c_1
    refine ev_iconst (v := (-1)) (pc := 22) d_ga_trace_22 kc_i_m1 ?_
    exact ev_iret (pc := 23) ⟨Nat.le_of_ble_eq_true rfl, Nat.le_of_ble_eq_true rfl⟩ d_ga_trace_23 rfl (vp_nar_int _) h_3
theorem b_ga_taken_0 {E : gp_E} {S : gp_S} {X : gp_H} {Q : Option Value → gp_H → Prop} {x1 : Int32} {x2 : Int32} (hX : Lay S X)  (hh : (((iw x2 0 3) = true → (∃ Qz_4, Ev E m_ga_modelAt 0 [(0, .ref 0), (1, .int x1)] [] X (0, 0) Qz_4 ∧ ∀ r X_7, Qz_4 r X_7 → ((∃ a_13 k_15 : Nat, r = some (.ref a_13) ∧ gp_at X_7 a_13 (k_15, 0) ∧ (k_15 < 13 ∧ gp_gid k_15 = 7) ∧ Lay S X_7 ∧ (∃ Qz_18, Ev E m_ga_isOfKind 0 [(0, .ref a_13), (1, .int x2)] [] X_7 (0, 0) Qz_18 ∧ ∀ r X_21, Qz_18 r X_21 → ∃ v_27 : Int32, r = some (.int v_27) ∧ Lay S X_21 ∧ gp_at X_21 a_13 (k_15, 0) ∧ ((¬ v_27 = 0 → (∃ Qz_31, ((k_15 = 1 → Ev E m_fi_kindNumber 0 [(0, .ref a_13)] [] X_21 (0, 0) Qz_31) ∧ (k_15 = 2 → Ev E m_gr_kindNumber 0 [(0, .ref a_13)] [] X_21 (0, 0) Qz_31) ∧ (k_15 = 6 → Ev E m_ov_kindNumber 0 [(0, .ref a_13)] [] X_21 (0, 0) Qz_31) ∧ (k_15 = 7 → Ev E m_ri_kindNumber 0 [(0, .ref a_13)] [] X_21 (0, 0) Qz_31)) ∧ ∀ r X_34, Qz_31 r X_34 → ∃ v_39 : Int32, r = some (.int v_39) ∧ Lay S X_34 ∧ gp_at X_34 a_13 (k_15, 0) ∧ Q (some (.int v_39)) X_34)) ∧ (v_27 = 0 → Q (some (.int (-13))) X_21)))) ∨ (r = some .null ∧ Lay S X_7 ∧ Q (some (.int (-11))) X_7)))) ∧ ((iw x2 0 3) = false → Q (some (.int (-2))) X))) : Ev E m_ga_taken 0 [(0, .ref 0), (1, .int x1), (2, .int x2)] [] X (0, 0) Q := by
  refine ev_iload_n (x := x2) (pc := 0) d_ga_taken_0 rfl ?_
  refine ev_iconst (v := 0) (pc := 1) d_ga_taken_1 kc_i_0 ?_
  refine ev_iconst (v := 3) (pc := 2) d_ga_taken_2 kc_i_3 ?_
  refine ev_callS (z := m_ga_isWithin) (as := [.int x2, .int 0, .int 3]) (rest := []) (pc := 3) d_ga_taken_3 l_ga_128 i_ga_isWithin o_ga_isWithin rfl rfl (Nat.le_of_ble_eq_true rfl) rfl (Nat.le_of_ble_eq_true rfl) ⟨Nat.le_of_ble_eq_true rfl, Nat.le_of_ble_eq_true rfl⟩ (s_ga_isWithin hX x2 0 3) (fun r X1 hq => ?_)
  obtain ⟨rfl, rfl⟩ := hq
  show Ev E m_ga_taken 6 [(0, .ref 0), (1, .int x1), (2, .int x2)] [.int (bz (iw x2 0 3))] X (0, 0) Q
  refine ev_ifz_ne (pc := 6) (tgt := 12) d_ga_taken_6 (by decide) (fun c_1 => ?_) (fun c_1 => ?_)
  · have h_2 := hh.1 c_1
    refine ev_aload_n (x := 0) (pc := 12) d_ga_taken_12 rfl ?_
    refine ev_iload_n (x := x1) (pc := 13) d_ga_taken_13 rfl ?_
    obtain ⟨Qz_4, hc_5, hk_6⟩ := h_2
    refine ev_callV (z := m_ga_modelAt) (as := [.int x1]) (rest := []) (pc := 14) d_ga_taken_14 (ly_at hX 0 rfl) lt13_11 rfl l_ga_194 i_ga_modelAt v_ga_modelAt o_ga_modelAt rfl rfl (Nat.le_of_ble_eq_true rfl) rfl (Nat.le_of_ble_eq_true rfl) ⟨Nat.le_of_ble_eq_true rfl, Nat.le_of_ble_eq_true rfl⟩ hc_5 (fun r_8 X_7 hq_9 => ?_)
    rcases hk_6 _ _ hq_9 with ⟨a_13, k_15, rfl, hb_14, hg_16, hX_11, h_10⟩ | ⟨rfl, hX_11, h_17⟩
    · show Ev E m_ga_taken 17 [(0, .ref 0), (1, .int x1), (2, .int x2)] [.ref a_13] X_7 (0, 0) Q
      refine ev_astore_n (L2 := [(0, .ref 0), (1, .int x1), (2, .int x2), (3, .ref a_13)]) (pc := 17) d_ga_taken_17 rfl (Nat.le_of_ble_eq_true rfl) rfl ?_
      refine ev_aload_n (x := a_13) (pc := 18) d_ga_taken_18 rfl ?_
      refine ev_ifnonnull (pc := 19) (tgt := 25) d_ga_taken_19 (by decide) ?_
      refine ev_aload_n (x := a_13) (pc := 25) d_ga_taken_25 rfl ?_
      refine ev_iload_n (x := x2) (pc := 26) d_ga_taken_26 rfl ?_
      obtain ⟨Qz_18, hc_19, hk_20⟩ := h_10
      refine ev_callS (z := m_ga_isOfKind) (as := [.ref a_13, .int x2]) (rest := []) (pc := 27) d_ga_taken_27 l_ga_448 i_ga_isOfKind o_ga_isOfKind rfl rfl (Nat.le_of_ble_eq_true rfl) rfl (Nat.le_of_ble_eq_true rfl) ⟨Nat.le_of_ble_eq_true rfl, Nat.le_of_ble_eq_true rfl⟩ hc_19 (fun r_22 X_21 hq_23 => ?_)
      obtain ⟨v_27, rfl, hX_25, hm_26, h_24⟩ := hk_20 _ _ hq_23
      show Ev E m_ga_taken 30 [(0, .ref 0), (1, .int x1), (2, .int x2), (3, .ref a_13)] [.int v_27] X_21 (0, 0) Q
      refine ev_if_ne (pc := 30) (tgt := 36) d_ga_taken_30 (by decide) (fun c_28 => ?_) (fun c_28 => ?_)
      · have h_29 := h_24.1 c_28
        refine ev_aload_n (x := a_13) (pc := 36) d_ga_taken_36 rfl ?_
        obtain ⟨Qz_31, hc_32, hk_33⟩ := h_29
        have kk_41 : ∀ r X_34, Qz_31 r X_34 → Ev E m_ga_taken 40 [(0, .ref 0), (1, .int x1), (2, .int x2), (3, .ref a_13)] (r.toList ++ []) X_34 (0, 0) Q := by
          intro r_35 X_34 hq_36
          obtain ⟨v_39, rfl, hX_38, hm_40, h_37⟩ := hk_33 _ _ hq_36
          show Ev E m_ga_taken 40 [(0, .ref 0), (1, .int x1), (2, .int x2), (3, .ref a_13)] [.int v_39] X_34 (0, 0) Q
          exact ev_iret (pc := 40) ⟨Nat.le_of_ble_eq_true rfl, Nat.le_of_ble_eq_true rfl⟩ d_ga_taken_40 rfl (vp_nar_int _) h_37
        have hat := hm_26
        rcases gp_ring hg_16 with e | e | e | e
        · have hz := hc_32.1 e
          rw [e] at hat
          exact ev_callU (z := m_fi_kindNumber) (as := []) (rest := []) (owner := "GasTurn$Ring") (pc := 37) d_ga_taken_37 hat lt13_1 l_ga_452 e_ri_ri_kindNumber i_ri_kindNumber o_ri_kindNumber.2.2.2.1 i_fi_kindNumber w_fi_ri_kindNumber_fi_kindNumber ⟨by decide, by decide, o_ri_kindNumber.1⟩ o_fi_kindNumber rfl rfl (Nat.le_of_ble_eq_true rfl) rfl (Nat.le_of_ble_eq_true rfl) ⟨Nat.le_of_ble_eq_true rfl, Nat.le_of_ble_eq_true rfl⟩ hz kk_41
        · have hz := hc_32.2.1 e
          rw [e] at hat
          exact ev_callU (z := m_gr_kindNumber) (as := []) (rest := []) (owner := "GasTurn$Ring") (pc := 37) d_ga_taken_37 hat lt13_2 l_ga_452 e_ri_ri_kindNumber i_ri_kindNumber o_ri_kindNumber.2.2.2.1 i_gr_kindNumber w_gr_ri_kindNumber_gr_kindNumber ⟨by decide, by decide, o_ri_kindNumber.1⟩ o_gr_kindNumber rfl rfl (Nat.le_of_ble_eq_true rfl) rfl (Nat.le_of_ble_eq_true rfl) ⟨Nat.le_of_ble_eq_true rfl, Nat.le_of_ble_eq_true rfl⟩ hz kk_41
        · have hz := hc_32.2.2.1 e
          rw [e] at hat
          exact ev_callU (z := m_ov_kindNumber) (as := []) (rest := []) (owner := "GasTurn$Ring") (pc := 37) d_ga_taken_37 hat lt13_6 l_ga_452 e_ri_ri_kindNumber i_ri_kindNumber o_ri_kindNumber.2.2.2.1 i_ov_kindNumber w_ov_ri_kindNumber_ov_kindNumber ⟨by decide, by decide, o_ri_kindNumber.1⟩ o_ov_kindNumber rfl rfl (Nat.le_of_ble_eq_true rfl) rfl (Nat.le_of_ble_eq_true rfl) ⟨Nat.le_of_ble_eq_true rfl, Nat.le_of_ble_eq_true rfl⟩ hz kk_41
        · have hz := hc_32.2.2.2 e
          rw [e] at hat
          exact ev_callU (z := m_ri_kindNumber) (as := []) (rest := []) (owner := "GasTurn$Ring") (pc := 37) d_ga_taken_37 hat lt13_7 l_ga_452 e_ri_ri_kindNumber i_ri_kindNumber o_ri_kindNumber.2.2.2.1 i_ri_kindNumber w_ri_ri_kindNumber_ri_kindNumber ⟨by decide, by decide, o_ri_kindNumber.1⟩ o_ri_kindNumber rfl rfl (Nat.le_of_ble_eq_true rfl) rfl (Nat.le_of_ble_eq_true rfl) ⟨Nat.le_of_ble_eq_true rfl, Nat.le_of_ble_eq_true rfl⟩ hz kk_41
      · have h_30 := h_24.2 c_28
        refine ev_bipush (v := (-13)) (pc := 33) d_ga_taken_33 kc_b_m13 ?_
        exact ev_iret (pc := 35) ⟨Nat.le_of_ble_eq_true rfl, Nat.le_of_ble_eq_true rfl⟩ d_ga_taken_35 rfl (vp_nar_int _) h_30
    · show Ev E m_ga_taken 17 [(0, .ref 0), (1, .int x1), (2, .int x2)] [.null] X_7 (0, 0) Q
      refine ev_astore_nN (L2 := [(0, .ref 0), (1, .int x1), (2, .int x2), (3, .null)]) (pc := 17) d_ga_taken_17 rfl (Nat.le_of_ble_eq_true rfl) rfl ?_
      refine ev_aload_nN  (pc := 18) d_ga_taken_18 rfl ?_
      refine ev_ifnonnullN (pc := 19) d_ga_taken_19 ?_
      refine ev_bipush (v := (-11)) (pc := 22) d_ga_taken_22 kc_b_m11 ?_
      exact ev_iret (pc := 24) ⟨Nat.le_of_ble_eq_true rfl, Nat.le_of_ble_eq_true rfl⟩ d_ga_taken_24 rfl (vp_nar_int _) h_17
  · have h_3 := hh.2 c_1
    refine ev_bipush (v := (-2)) (pc := 9) d_ga_taken_9 kc_b_m2 ?_
    exact ev_iret (pc := 11) ⟨Nat.le_of_ble_eq_true rfl, Nat.le_of_ble_eq_true rfl⟩ d_ga_taken_11 rfl (vp_nar_int _) h_3
theorem b_ga_count_0 {E : gp_E} {S : gp_S} {X : gp_H} {Q : Option Value → gp_H → Prop} {x1 : Int32} (hX : Lay S X)  (hh : (((x1.toInt < 0 ∨ 17 < x1.toInt) → Q (some (.int (-2))) X) ∧ (x1 = 0 → Q (some (.int (gI X 1 0))) X) ∧ (x1 = 1 → Q (some (.int (gI X 1 1))) X) ∧ (x1 = 2 → Q (some (.int (gI X 1 9))) X) ∧ (x1 = 3 → Q (some (.int (gI X 0 4))) X) ∧ (x1 = 4 → Q (some (.int (gI X 0 6))) X) ∧ (x1 = 5 → Q (some (.int (gI X 0 9))) X) ∧ (x1 = 6 → Q (some (.int (gI X 0 14))) X) ∧ (x1 = 7 → Q (some (.int (gI X 23 1))) X) ∧ (x1 = 8 → Q (some (.int (gI X 23 4))) X) ∧ (x1 = 9 → Q (some (.int (gI X 31 0))) X) ∧ (x1 = 10 → Q (some (.int (gI X 31 5))) X) ∧ (x1 = 11 → (∃ Qz_14, Ev E m_ga_faults 0 [(0, .ref 0)] [] X (0, 0) Qz_14 ∧ ∀ r X_17, Qz_14 r X_17 → ∃ v_22 : Int32, r = some (.int v_22) ∧ Lay S X_17 ∧ Q (some (.int v_22)) X_17)) ∧ (x1 = 12 → Q (some (.int (gI X 40 2))) X) ∧ (x1 = 13 → Q (some (.int (gI X 0 16))) X) ∧ (x1 = 14 → Q (some (.int (gI X 40 0))) X) ∧ (x1 = 15 → (∃ Qz_27, Ev E m_ne_shutValves 0 [(0, .ref 1)] [] X (0, 0) Qz_27 ∧ ∀ r X_30, Qz_27 r X_30 → ∃ v_35 : Int32, r = some (.int v_35) ∧ Lay S X_30 ∧ Q (some (.int v_35)) X_30)) ∧ (x1 = 16 → (∃ Qz_37, Ev E m_ga_shutHomes 0 [(0, .ref 0)] [] X (0, 0) Qz_37 ∧ ∀ r X_40, Qz_37 r X_40 → ∃ v_45 : Int32, r = some (.int v_45) ∧ Lay S X_40 ∧ Q (some (.int v_45)) X_40)) ∧ (x1 = 17 → Q (some (.int (gI X 13 1))) X))) : Ev E m_ga_count 0 [(0, .ref 0), (1, .int x1)] [] X (0, 0) Q := by
  refine ev_iload_n (x := x1) (pc := 0) d_ga_count_0 rfl ?_
  rcases gp_tab (lo := 0) (n := 18) x1 with c_47 | ⟨k, hk, c_47⟩
  · have h_1 := hh.1 (by omega)
    refine ev_tableOut (pc := 1) (tgt := 211) d_ga_count_1 (by omega) (by decide) ?_
    refine ev_bipush (v := (-2)) (pc := 211) d_ga_count_211 kc_b_m2 ?_
    exact ev_iret (pc := 213) ⟨Nat.le_of_ble_eq_true rfl, Nat.le_of_ble_eq_true rfl⟩ d_ga_count_213 rfl (vp_nar_int _) h_1
  · match k, hk, c_47 with
    | 0, _, c_47 =>
      have c_47e : x1 = 0 := gp_eqi (c_47.trans (by decide : (0 : Int) + ((0 : Nat) : Int) = 0)) (by decide)
      have h_2 := hh.2.1 c_47e
      refine ev_tableIn (pc := 1) (off := 87) (tgt := 88) d_ga_count_1 (by rw [c_47e]; decide) (by rw [c_47e]; decide) (by rw [c_47e]; decide) (by decide) ?_
      refine ev_aload_n (x := 0) (pc := 88) d_ga_count_88 rfl ?_
      refine ev_getR (pc := 89) d_ga_count_89 f_ga_10 (ly_at hX 0 rfl) gg_11 rfl (ly_rf hX 0 0 rfl) ?_
      refine ev_getJ (v := (gI X 1 0)) (pc := 92) d_ga_count_92 f_ga_87 (ly_at hX 1 rfl) gg_5 rfl rfl ?_
      exact ev_iret (pc := 95) ⟨Nat.le_of_ble_eq_true rfl, Nat.le_of_ble_eq_true rfl⟩ d_ga_count_95 rfl (vp_nar_int _) h_2
    | 1, _, c_47 =>
      have c_47e : x1 = 1 := gp_eqi (c_47.trans (by decide : (0 : Int) + ((1 : Nat) : Int) = 1)) (by decide)
      have h_3 := hh.2.2.1 c_47e
      refine ev_tableIn (pc := 1) (off := 95) (tgt := 96) d_ga_count_1 (by rw [c_47e]; decide) (by rw [c_47e]; decide) (by rw [c_47e]; decide) (by decide) ?_
      refine ev_aload_n (x := 0) (pc := 96) d_ga_count_96 rfl ?_
      refine ev_getR (pc := 97) d_ga_count_97 f_ga_10 (ly_at hX 0 rfl) gg_11 rfl (ly_rf hX 0 0 rfl) ?_
      refine ev_getJ (v := (gI X 1 1)) (pc := 100) d_ga_count_100 f_ga_98 (ly_at hX 1 rfl) gg_5 rfl rfl ?_
      exact ev_iret (pc := 103) ⟨Nat.le_of_ble_eq_true rfl, Nat.le_of_ble_eq_true rfl⟩ d_ga_count_103 rfl (vp_nar_int _) h_3
    | 2, _, c_47 =>
      have c_47e : x1 = 2 := gp_eqi (c_47.trans (by decide : (0 : Int) + ((2 : Nat) : Int) = 2)) (by decide)
      have h_4 := hh.2.2.2.1 c_47e
      refine ev_tableIn (pc := 1) (off := 103) (tgt := 104) d_ga_count_1 (by rw [c_47e]; decide) (by rw [c_47e]; decide) (by rw [c_47e]; decide) (by decide) ?_
      refine ev_aload_n (x := 0) (pc := 104) d_ga_count_104 rfl ?_
      refine ev_getR (pc := 105) d_ga_count_105 f_ga_10 (ly_at hX 0 rfl) gg_11 rfl (ly_rf hX 0 0 rfl) ?_
      refine ev_getJ (v := (gI X 1 9)) (pc := 108) d_ga_count_108 f_ga_132 (ly_at hX 1 rfl) gg_5 rfl rfl ?_
      exact ev_iret (pc := 111) ⟨Nat.le_of_ble_eq_true rfl, Nat.le_of_ble_eq_true rfl⟩ d_ga_count_111 rfl (vp_nar_int _) h_4
    | 3, _, c_47 =>
      have c_47e : x1 = 3 := gp_eqi (c_47.trans (by decide : (0 : Int) + ((3 : Nat) : Int) = 3)) (by decide)
      have h_5 := hh.2.2.2.2.1 c_47e
      refine ev_tableIn (pc := 1) (off := 111) (tgt := 112) d_ga_count_1 (by rw [c_47e]; decide) (by rw [c_47e]; decide) (by rw [c_47e]; decide) (by decide) ?_
      refine ev_aload_n (x := 0) (pc := 112) d_ga_count_112 rfl ?_
      refine ev_getJ (v := (gI X 0 4)) (pc := 113) d_ga_count_113 f_ga_187 (ly_at hX 0 rfl) gg_11 rfl rfl ?_
      exact ev_iret (pc := 116) ⟨Nat.le_of_ble_eq_true rfl, Nat.le_of_ble_eq_true rfl⟩ d_ga_count_116 rfl (vp_nar_int _) h_5
    | 4, _, c_47 =>
      have c_47e : x1 = 4 := gp_eqi (c_47.trans (by decide : (0 : Int) + ((4 : Nat) : Int) = 4)) (by decide)
      have h_6 := hh.2.2.2.2.2.1 c_47e
      refine ev_tableIn (pc := 1) (off := 116) (tgt := 117) d_ga_count_1 (by rw [c_47e]; decide) (by rw [c_47e]; decide) (by rw [c_47e]; decide) (by decide) ?_
      refine ev_aload_n (x := 0) (pc := 117) d_ga_count_117 rfl ?_
      refine ev_getJ (v := (gI X 0 6)) (pc := 118) d_ga_count_118 f_ga_198 (ly_at hX 0 rfl) gg_11 rfl rfl ?_
      exact ev_iret (pc := 121) ⟨Nat.le_of_ble_eq_true rfl, Nat.le_of_ble_eq_true rfl⟩ d_ga_count_121 rfl (vp_nar_int _) h_6
    | 5, _, c_47 =>
      have c_47e : x1 = 5 := gp_eqi (c_47.trans (by decide : (0 : Int) + ((5 : Nat) : Int) = 5)) (by decide)
      have h_7 := hh.2.2.2.2.2.2.1 c_47e
      refine ev_tableIn (pc := 1) (off := 121) (tgt := 122) d_ga_count_1 (by rw [c_47e]; decide) (by rw [c_47e]; decide) (by rw [c_47e]; decide) (by decide) ?_
      refine ev_aload_n (x := 0) (pc := 122) d_ga_count_122 rfl ?_
      refine ev_getJ (v := (gI X 0 9)) (pc := 123) d_ga_count_123 f_ga_313 (ly_at hX 0 rfl) gg_11 rfl rfl ?_
      exact ev_iret (pc := 126) ⟨Nat.le_of_ble_eq_true rfl, Nat.le_of_ble_eq_true rfl⟩ d_ga_count_126 rfl (vp_nar_int _) h_7
    | 6, _, c_47 =>
      have c_47e : x1 = 6 := gp_eqi (c_47.trans (by decide : (0 : Int) + ((6 : Nat) : Int) = 6)) (by decide)
      have h_8 := hh.2.2.2.2.2.2.2.1 c_47e
      refine ev_tableIn (pc := 1) (off := 126) (tgt := 127) d_ga_count_1 (by rw [c_47e]; decide) (by rw [c_47e]; decide) (by rw [c_47e]; decide) (by decide) ?_
      refine ev_aload_n (x := 0) (pc := 127) d_ga_count_127 rfl ?_
      refine ev_getJ (v := (gI X 0 14)) (pc := 128) d_ga_count_128 f_ga_268 (ly_at hX 0 rfl) gg_11 rfl rfl ?_
      exact ev_iret (pc := 131) ⟨Nat.le_of_ble_eq_true rfl, Nat.le_of_ble_eq_true rfl⟩ d_ga_count_131 rfl (vp_nar_int _) h_8
    | 7, _, c_47 =>
      have c_47e : x1 = 7 := gp_eqi (c_47.trans (by decide : (0 : Int) + ((7 : Nat) : Int) = 7)) (by decide)
      have h_9 := hh.2.2.2.2.2.2.2.2.1 c_47e
      refine ev_tableIn (pc := 1) (off := 131) (tgt := 132) d_ga_count_1 (by rw [c_47e]; decide) (by rw [c_47e]; decide) (by rw [c_47e]; decide) (by decide) ?_
      refine ev_aload_n (x := 0) (pc := 132) d_ga_count_132 rfl ?_
      refine ev_getR (pc := 133) d_ga_count_133 f_ga_62 (ly_at hX 0 rfl) gg_11 rfl (ly_rf hX 0 15 rfl) ?_
      refine ev_getJ (v := (gI X 23 1)) (pc := 136) d_ga_count_136 f_ga_280 (ly_at hX 23 rfl) gg_8 rfl rfl ?_
      exact ev_iret (pc := 139) ⟨Nat.le_of_ble_eq_true rfl, Nat.le_of_ble_eq_true rfl⟩ d_ga_count_139 rfl (vp_nar_int _) h_9
    | 8, _, c_47 =>
      have c_47e : x1 = 8 := gp_eqi (c_47.trans (by decide : (0 : Int) + ((8 : Nat) : Int) = 8)) (by decide)
      have h_10 := hh.2.2.2.2.2.2.2.2.2.1 c_47e
      refine ev_tableIn (pc := 1) (off := 139) (tgt := 140) d_ga_count_1 (by rw [c_47e]; decide) (by rw [c_47e]; decide) (by rw [c_47e]; decide) (by decide) ?_
      refine ev_aload_n (x := 0) (pc := 140) d_ga_count_140 rfl ?_
      refine ev_getR (pc := 141) d_ga_count_141 f_ga_62 (ly_at hX 0 rfl) gg_11 rfl (ly_rf hX 0 15 rfl) ?_
      refine ev_getJ (v := (gI X 23 4)) (pc := 144) d_ga_count_144 f_ga_307 (ly_at hX 23 rfl) gg_8 rfl rfl ?_
      exact ev_iret (pc := 147) ⟨Nat.le_of_ble_eq_true rfl, Nat.le_of_ble_eq_true rfl⟩ d_ga_count_147 rfl (vp_nar_int _) h_10
    | 9, _, c_47 =>
      have c_47e : x1 = 9 := gp_eqi (c_47.trans (by decide : (0 : Int) + ((9 : Nat) : Int) = 9)) (by decide)
      have h_11 := hh.2.2.2.2.2.2.2.2.2.2.1 c_47e
      refine ev_tableIn (pc := 1) (off := 147) (tgt := 148) d_ga_count_1 (by rw [c_47e]; decide) (by rw [c_47e]; decide) (by rw [c_47e]; decide) (by decide) ?_
      refine ev_aload_n (x := 0) (pc := 148) d_ga_count_148 rfl ?_
      refine ev_getR (pc := 149) d_ga_count_149 f_ga_69 (ly_at hX 0 rfl) gg_11 rfl (ly_rf hX 0 17 rfl) ?_
      refine ev_getJ (v := (gI X 31 0)) (pc := 152) d_ga_count_152 f_ga_320 (ly_at hX 31 rfl) gg_0 rfl rfl ?_
      exact ev_iret (pc := 155) ⟨Nat.le_of_ble_eq_true rfl, Nat.le_of_ble_eq_true rfl⟩ d_ga_count_155 rfl (vp_nar_int _) h_11
    | 10, _, c_47 =>
      have c_47e : x1 = 10 := gp_eqi (c_47.trans (by decide : (0 : Int) + ((10 : Nat) : Int) = 10)) (by decide)
      have h_12 := hh.2.2.2.2.2.2.2.2.2.2.2.1 c_47e
      refine ev_tableIn (pc := 1) (off := 155) (tgt := 156) d_ga_count_1 (by rw [c_47e]; decide) (by rw [c_47e]; decide) (by rw [c_47e]; decide) (by decide) ?_
      refine ev_aload_n (x := 0) (pc := 156) d_ga_count_156 rfl ?_
      refine ev_getR (pc := 157) d_ga_count_157 f_ga_69 (ly_at hX 0 rfl) gg_11 rfl (ly_rf hX 0 17 rfl) ?_
      refine ev_getJ (v := (gI X 31 5)) (pc := 160) d_ga_count_160 f_ga_375 (ly_at hX 31 rfl) gg_0 rfl rfl ?_
      exact ev_iret (pc := 163) ⟨Nat.le_of_ble_eq_true rfl, Nat.le_of_ble_eq_true rfl⟩ d_ga_count_163 rfl (vp_nar_int _) h_12
    | 11, _, c_47 =>
      have c_47e : x1 = 11 := gp_eqi (c_47.trans (by decide : (0 : Int) + ((11 : Nat) : Int) = 11)) (by decide)
      have h_13 := hh.2.2.2.2.2.2.2.2.2.2.2.2.1 c_47e
      refine ev_tableIn (pc := 1) (off := 163) (tgt := 164) d_ga_count_1 (by rw [c_47e]; decide) (by rw [c_47e]; decide) (by rw [c_47e]; decide) (by decide) ?_
      refine ev_aload_n (x := 0) (pc := 164) d_ga_count_164 rfl ?_
      obtain ⟨Qz_14, hc_15, hk_16⟩ := h_13
      refine ev_callV (z := m_ga_faults) (as := []) (rest := []) (pc := 165) d_ga_count_165 (ly_at hX 0 rfl) lt13_11 rfl l_ga_403 i_ga_faults v_ga_faults o_ga_faults rfl rfl (Nat.le_of_ble_eq_true rfl) rfl (Nat.le_of_ble_eq_true rfl) ⟨Nat.le_of_ble_eq_true rfl, Nat.le_of_ble_eq_true rfl⟩ hc_15 (fun r_18 X_17 hq_19 => ?_)
      obtain ⟨v_22, rfl, hX_21, h_20⟩ := hk_16 _ _ hq_19
      show Ev E m_ga_count 168 [(0, .ref 0), (1, .int x1)] [.int v_22] X_17 (0, 0) Q
      exact ev_iret (pc := 168) ⟨Nat.le_of_ble_eq_true rfl, Nat.le_of_ble_eq_true rfl⟩ d_ga_count_168 rfl (vp_nar_int _) h_20
    | 12, _, c_47 =>
      have c_47e : x1 = 12 := gp_eqi (c_47.trans (by decide : (0 : Int) + ((12 : Nat) : Int) = 12)) (by decide)
      have h_23 := hh.2.2.2.2.2.2.2.2.2.2.2.2.2.1 c_47e
      refine ev_tableIn (pc := 1) (off := 168) (tgt := 169) d_ga_count_1 (by rw [c_47e]; decide) (by rw [c_47e]; decide) (by rw [c_47e]; decide) (by decide) ?_
      refine ev_aload_n (x := 0) (pc := 169) d_ga_count_169 rfl ?_
      refine ev_getR (pc := 170) d_ga_count_170 f_ga_76 (ly_at hX 0 rfl) gg_11 rfl (ly_rf hX 0 18 rfl) ?_
      refine ev_getJ (v := (gI X 40 2)) (pc := 173) d_ga_count_173 f_ga_421 (ly_at hX 40 rfl) gg_4 rfl rfl ?_
      exact ev_iret (pc := 176) ⟨Nat.le_of_ble_eq_true rfl, Nat.le_of_ble_eq_true rfl⟩ d_ga_count_176 rfl (vp_nar_int _) h_23
    | 13, _, c_47 =>
      have c_47e : x1 = 13 := gp_eqi (c_47.trans (by decide : (0 : Int) + ((13 : Nat) : Int) = 13)) (by decide)
      have h_24 := hh.2.2.2.2.2.2.2.2.2.2.2.2.2.2.1 c_47e
      refine ev_tableIn (pc := 1) (off := 176) (tgt := 177) d_ga_count_1 (by rw [c_47e]; decide) (by rw [c_47e]; decide) (by rw [c_47e]; decide) (by decide) ?_
      refine ev_aload_n (x := 0) (pc := 177) d_ga_count_177 rfl ?_
      refine ev_getJ (v := (gI X 0 16)) (pc := 178) d_ga_count_178 f_ga_265 (ly_at hX 0 rfl) gg_11 rfl rfl ?_
      exact ev_iret (pc := 181) ⟨Nat.le_of_ble_eq_true rfl, Nat.le_of_ble_eq_true rfl⟩ d_ga_count_181 rfl (vp_nar_int _) h_24
    | 14, _, c_47 =>
      have c_47e : x1 = 14 := gp_eqi (c_47.trans (by decide : (0 : Int) + ((14 : Nat) : Int) = 14)) (by decide)
      have h_25 := hh.2.2.2.2.2.2.2.2.2.2.2.2.2.2.2.1 c_47e
      refine ev_tableIn (pc := 1) (off := 181) (tgt := 182) d_ga_count_1 (by rw [c_47e]; decide) (by rw [c_47e]; decide) (by rw [c_47e]; decide) (by decide) ?_
      refine ev_aload_n (x := 0) (pc := 182) d_ga_count_182 rfl ?_
      refine ev_getR (pc := 183) d_ga_count_183 f_ga_76 (ly_at hX 0 rfl) gg_11 rfl (ly_rf hX 0 18 rfl) ?_
      refine ev_getJ (v := (gI X 40 0)) (pc := 186) d_ga_count_186 f_ga_415 (ly_at hX 40 rfl) gg_4 rfl rfl ?_
      exact ev_iret (pc := 189) ⟨Nat.le_of_ble_eq_true rfl, Nat.le_of_ble_eq_true rfl⟩ d_ga_count_189 rfl (vp_nar_int _) h_25
    | 15, _, c_47 =>
      have c_47e : x1 = 15 := gp_eqi (c_47.trans (by decide : (0 : Int) + ((15 : Nat) : Int) = 15)) (by decide)
      have h_26 := hh.2.2.2.2.2.2.2.2.2.2.2.2.2.2.2.2.1 c_47e
      refine ev_tableIn (pc := 1) (off := 189) (tgt := 190) d_ga_count_1 (by rw [c_47e]; decide) (by rw [c_47e]; decide) (by rw [c_47e]; decide) (by decide) ?_
      refine ev_aload_n (x := 0) (pc := 190) d_ga_count_190 rfl ?_
      refine ev_getR (pc := 191) d_ga_count_191 f_ga_10 (ly_at hX 0 rfl) gg_11 rfl (ly_rf hX 0 0 rfl) ?_
      obtain ⟨Qz_27, hc_28, hk_29⟩ := h_26
      refine ev_callV (z := m_ne_shutValves) (as := []) (rest := []) (pc := 194) d_ga_count_194 (ly_at hX 1 rfl) lt13_5 rfl l_ga_455 i_ne_shutValves v_ne_shutValves o_ne_shutValves rfl rfl (Nat.le_of_ble_eq_true rfl) rfl (Nat.le_of_ble_eq_true rfl) ⟨Nat.le_of_ble_eq_true rfl, Nat.le_of_ble_eq_true rfl⟩ hc_28 (fun r_31 X_30 hq_32 => ?_)
      obtain ⟨v_35, rfl, hX_34, h_33⟩ := hk_29 _ _ hq_32
      show Ev E m_ga_count 197 [(0, .ref 0), (1, .int x1)] [.int v_35] X_30 (0, 0) Q
      exact ev_iret (pc := 197) ⟨Nat.le_of_ble_eq_true rfl, Nat.le_of_ble_eq_true rfl⟩ d_ga_count_197 rfl (vp_nar_int _) h_33
    | 16, _, c_47 =>
      have c_47e : x1 = 16 := gp_eqi (c_47.trans (by decide : (0 : Int) + ((16 : Nat) : Int) = 16)) (by decide)
      have h_36 := hh.2.2.2.2.2.2.2.2.2.2.2.2.2.2.2.2.2.1 c_47e
      refine ev_tableIn (pc := 1) (off := 197) (tgt := 198) d_ga_count_1 (by rw [c_47e]; decide) (by rw [c_47e]; decide) (by rw [c_47e]; decide) (by decide) ?_
      refine ev_aload_n (x := 0) (pc := 198) d_ga_count_198 rfl ?_
      obtain ⟨Qz_37, hc_38, hk_39⟩ := h_36
      refine ev_callV (z := m_ga_shutHomes) (as := []) (rest := []) (pc := 199) d_ga_count_199 (ly_at hX 0 rfl) lt13_11 rfl l_ga_458 i_ga_shutHomes v_ga_shutHomes o_ga_shutHomes rfl rfl (Nat.le_of_ble_eq_true rfl) rfl (Nat.le_of_ble_eq_true rfl) ⟨Nat.le_of_ble_eq_true rfl, Nat.le_of_ble_eq_true rfl⟩ hc_38 (fun r_41 X_40 hq_42 => ?_)
      obtain ⟨v_45, rfl, hX_44, h_43⟩ := hk_39 _ _ hq_42
      show Ev E m_ga_count 202 [(0, .ref 0), (1, .int x1)] [.int v_45] X_40 (0, 0) Q
      exact ev_iret (pc := 202) ⟨Nat.le_of_ble_eq_true rfl, Nat.le_of_ble_eq_true rfl⟩ d_ga_count_202 rfl (vp_nar_int _) h_43
    | 17, _, c_47 =>
      have c_47e : x1 = 17 := gp_eqi (c_47.trans (by decide : (0 : Int) + ((17 : Nat) : Int) = 17)) (by decide)
      have h_46 := hh.2.2.2.2.2.2.2.2.2.2.2.2.2.2.2.2.2.2 c_47e
      refine ev_tableIn (pc := 1) (off := 202) (tgt := 203) d_ga_count_1 (by rw [c_47e]; decide) (by rw [c_47e]; decide) (by rw [c_47e]; decide) (by decide) ?_
      refine ev_aload_n (x := 0) (pc := 203) d_ga_count_203 rfl ?_
      refine ev_getR (pc := 204) d_ga_count_204 f_ga_23 (ly_at hX 0 rfl) gg_11 rfl (ly_rf hX 0 2 rfl) ?_
      refine ev_getJ (v := (gI X 13 1)) (pc := 207) d_ga_count_207 f_ga_428 (ly_at hX 13 rfl) gg_10 rfl rfl ?_
      exact ev_iret (pc := 210) ⟨Nat.le_of_ble_eq_true rfl, Nat.le_of_ble_eq_true rfl⟩ d_ga_count_210 rfl (vp_nar_int _) h_46
    | k + 18, hk, _ => exact absurd hk (by omega)
theorem b_ga_shutHomes_0 {E : gp_E} {S : gp_S} {X : gp_H} {Q : Option Value → gp_H → Prop}  (hX : Lay S X)  (hh : Ev E m_ga_shutHomes 4 [(0, .ref 0), (1, .int 0), (2, .int 0)] [] X (0, 0) Q) : Ev E m_ga_shutHomes 0 [(0, .ref 0)] [] X (0, 0) Q := by
  refine ev_iconst (v := 0) (pc := 0) d_ga_shutHomes_0 kc_i_0 ?_
  refine ev_istore_n (L2 := [(0, .ref 0), (1, .int 0)]) (pc := 1) d_ga_shutHomes_1 rfl (Nat.le_of_ble_eq_true rfl) rfl ?_
  refine ev_iconst (v := 0) (pc := 2) d_ga_shutHomes_2 kc_i_0 ?_
  refine ev_istore_n (L2 := [(0, .ref 0), (1, .int 0), (2, .int 0)]) (pc := 3) d_ga_shutHomes_3 rfl (Nat.le_of_ble_eq_true rfl) rfl ?_
  exact hh
theorem b_ga_shutHomes_4 {E : gp_E} {S : gp_S} {X : gp_H} {Q : Option Value → gp_H → Prop} {x1 : Int32} {x2 : Int32} (hX : Lay S X)  (hh : (((gI X 0 6) ≤ x2 → Q (some (.int x1)) X) ∧ (¬ (gI X 0 6) ≤ x2 → (vp_in x2 40 ∧ ∃ r_4 : Nat, X.2.2.1 16 (Int32.toNatClampNeg x2) = some r_4 ∧ gp_at X r_4 (3, 0) ∧ ((¬ (gI X r_4 4) = 2 → Ev E m_ga_shutHomes 4 [(0, .ref 0), (1, .int x1), (2, .int (x2 + 1))] [] X (0, 0) Q) ∧ ((gI X r_4 4) = 2 → Ev E m_ga_shutHomes 4 [(0, .ref 0), (1, .int (x1 + 1)), (2, .int (x2 + 1))] [] X (0, 0) Q)))))) : Ev E m_ga_shutHomes 4 [(0, .ref 0), (1, .int x1), (2, .int x2)] [] X (0, 0) Q := by
  refine ev_iload_n (x := x2) (pc := 4) d_ga_shutHomes_4 rfl ?_
  refine ev_aload_n (x := 0) (pc := 5) d_ga_shutHomes_5 rfl ?_
  refine ev_getJ (v := (gI X 0 6)) (pc := 6) d_ga_shutHomes_6 f_ga_198 (ly_at hX 0 rfl) gg_11 rfl rfl ?_
  refine ev_icmp_ge (pc := 9) (tgt := 34) d_ga_shutHomes_9 (by decide) (fun c_1 => ?_) (fun c_1 => ?_)
  · have h_2 := hh.1 c_1
    refine ev_iload_n (x := x1) (pc := 34) d_ga_shutHomes_34 rfl ?_
    exact ev_iret (pc := 35) ⟨Nat.le_of_ble_eq_true rfl, Nat.le_of_ble_eq_true rfl⟩ d_ga_shutHomes_35 rfl (vp_nar_int _) h_2
  · have h_3 := hh.2 c_1
    refine ev_aload_n (x := 0) (pc := 12) d_ga_shutHomes_12 rfl ?_
    refine ev_getR (pc := 13) d_ga_shutHomes_13 f_ga_35 (ly_at hX 0 rfl) gg_11 rfl (ly_rf hX 0 5 rfl) ?_
    refine ev_iload_n (x := x2) (pc := 16) d_ga_shutHomes_16 rfl ?_
    obtain ⟨hv_7, r_4, hq_6, hb_5, h_8⟩ := h_3
    refine ev_ald4 (pc := 17) d_ga_shutHomes_17 (ly_at hX 16 rfl) hv_7 hq_6 ?_
    refine ev_getJ (v := (gI X r_4 4)) (pc := 18) d_ga_shutHomes_18 f_ga_249 hb_5 gg_3 rfl rfl ?_
    refine ev_iconst (v := 2) (pc := 21) d_ga_shutHomes_21 kc_i_2 ?_
    refine ev_icmp_ne (pc := 22) (tgt := 28) d_ga_shutHomes_22 (by decide) (fun c_9 => ?_) (fun c_9 => ?_)
    · have h_10 := h_8.1 c_9
      refine ev_iinc (v := (x2 + 1)) (L2 := [(0, .ref 0), (1, .int x1), (2, .int (x2 + 1))]) (pc := 28) d_ga_shutHomes_28 rfl (by rw [kc_i_1]) rfl (Nat.le_of_ble_eq_true rfl) rfl ?_
      refine ev_goto (pc := 31) (tgt := 4) d_ga_shutHomes_31 (by decide) ?_
      exact h_10
    · have h_11 := h_8.2 c_9
      refine ev_iinc (v := (x1 + 1)) (L2 := [(0, .ref 0), (1, .int (x1 + 1)), (2, .int x2)]) (pc := 25) d_ga_shutHomes_25 rfl (by rw [kc_i_1]) rfl (Nat.le_of_ble_eq_true rfl) rfl ?_
      refine ev_iinc (v := (x2 + 1)) (L2 := [(0, .ref 0), (1, .int (x1 + 1)), (2, .int (x2 + 1))]) (pc := 28) d_ga_shutHomes_28 rfl (by rw [kc_i_1]) rfl (Nat.le_of_ble_eq_true rfl) rfl ?_
      refine ev_goto (pc := 31) (tgt := 4) d_ga_shutHomes_31 (by decide) ?_
      exact h_11
theorem b_ga_cell_0 {E : gp_E} {S : gp_S} {X : gp_H} {Q : Option Value → gp_H → Prop} {x1 : Int32} {x2 : Int32} {x3 : Int32} (hX : Lay S X)  (hh : (((iw x1 0 2) = true → (∃ Qz_4, Ev E m_sh_isMissing 0 [(0, .ref 48), (1, .int x1)] [] X (0, 0) Qz_4 ∧ ∀ r X_7, Qz_4 r X_7 → ∃ v_12 : Int32, r = some (.int v_12) ∧ Lay S X_7 ∧ ((v_12 = 0 → (vp_in x1 3 ∧ (((iw x2 0 ((gI X_7 50 (Int32.toNatClampNeg x1)) - 1)) = true → (vp_in x1 3 ∧ ∃ r_19 : Nat, X_7.2.2.1 51 (Int32.toNatClampNeg x1) = some r_19 ∧ gp_at X_7 r_19 (13, 40) ∧ (∃ Qz_24, Ev E m_sh_cutToSort 0 [(0, .ref 48), (1, .int x1), (2, .int x3)] [] X_7 (0, 0) Qz_24 ∧ ∀ r X_27, Qz_24 r X_27 → ∃ v_33 : Int32, r = some (.int v_33) ∧ Lay S X_27 ∧ gp_at X_27 r_19 (13, 40) ∧ (vp_in x2 40 ∧ Q (some (.int 1)) (gp_sI X_27 r_19 (Int32.toNatClampNeg x2) v_33))))) ∧ ((iw x2 0 ((gI X_7 50 (Int32.toNatClampNeg x1)) - 1)) = false → Q (some (.int (-12))) X_7)))) ∧ (¬ v_12 = 0 → Q (some (.int (-11))) X_7)))) ∧ ((iw x1 0 2) = false → Q (some (.int (-2))) X))) : Ev E m_ga_cell 0 [(0, .ref 0), (1, .int x1), (2, .int x2), (3, .int x3)] [] X (0, 0) Q := by
  refine ev_aload_n (x := 0) (pc := 0) d_ga_cell_0 rfl ?_
  refine ev_getR (pc := 1) d_ga_cell_1 f_ga_83 (ly_at hX 0 rfl) gg_11 rfl (ly_rf hX 0 19 rfl) ?_
  refine ev_iload_n (x := x1) (pc := 4) d_ga_cell_4 rfl ?_
  refine ev_callV (z := m_sh_has) (as := [.int x1]) (rest := []) (pc := 5) d_ga_cell_5 (ly_at hX 48 rfl) lt13_9 rfl l_ga_212 i_sh_has v_sh_has o_sh_has rfl rfl (Nat.le_of_ble_eq_true rfl) rfl (Nat.le_of_ble_eq_true rfl) ⟨Nat.le_of_ble_eq_true rfl, Nat.le_of_ble_eq_true rfl⟩ (s_sh_has hX x1 ) (fun r X1 hq => ?_)
  obtain ⟨rfl, rfl⟩ := hq
  show Ev E m_ga_cell 8 [(0, .ref 0), (1, .int x1), (2, .int x2), (3, .int x3)] [.int (bz (iw x1 0 2))] X (0, 0) Q
  refine ev_ifz_ne (pc := 8) (tgt := 14) d_ga_cell_8 (by decide) (fun c_1 => ?_) (fun c_1 => ?_)
  · have h_2 := hh.1 c_1
    refine ev_aload_n (x := 0) (pc := 14) d_ga_cell_14 rfl ?_
    refine ev_getR (pc := 15) d_ga_cell_15 f_ga_83 (ly_at hX 0 rfl) gg_11 rfl (ly_rf hX 0 19 rfl) ?_
    refine ev_iload_n (x := x1) (pc := 18) d_ga_cell_18 rfl ?_
    obtain ⟨Qz_4, hc_5, hk_6⟩ := h_2
    refine ev_callV (z := m_sh_isMissing) (as := [.int x1]) (rest := []) (pc := 19) d_ga_cell_19 (ly_at hX 48 rfl) lt13_9 rfl l_ga_215 i_sh_isMissing v_sh_isMissing o_sh_isMissing rfl rfl (Nat.le_of_ble_eq_true rfl) rfl (Nat.le_of_ble_eq_true rfl) ⟨Nat.le_of_ble_eq_true rfl, Nat.le_of_ble_eq_true rfl⟩ hc_5 (fun r_8 X_7 hq_9 => ?_)
    obtain ⟨v_12, rfl, hX_11, h_10⟩ := hk_6 _ _ hq_9
    show Ev E m_ga_cell 22 [(0, .ref 0), (1, .int x1), (2, .int x2), (3, .int x3)] [.int v_12] X_7 (0, 0) Q
    refine ev_if_eq (pc := 22) (tgt := 28) d_ga_cell_22 (by decide) (fun c_13 => ?_) (fun c_13 => ?_)
    · have h_14 := h_10.1 c_13
      refine ev_aload_n (x := 0) (pc := 28) d_ga_cell_28 rfl ?_
      refine ev_getR (pc := 29) d_ga_cell_29 f_ga_83 (ly_at hX_11 0 rfl) gg_11 rfl (ly_rf hX_11 0 19 rfl) ?_
      refine ev_iload_n (x := x1) (pc := 32) d_ga_cell_32 rfl ?_
      refine ev_iload_n (x := x2) (pc := 33) d_ga_cell_33 rfl ?_
      refine ev_callV (z := m_sh_hasItem) (as := [.int x1, .int x2]) (rest := []) (pc := 34) d_ga_cell_34 (ly_at hX_11 48 rfl) lt13_9 rfl l_ga_221 i_sh_hasItem v_sh_hasItem o_sh_hasItem rfl rfl (Nat.le_of_ble_eq_true rfl) rfl (Nat.le_of_ble_eq_true rfl) ⟨Nat.le_of_ble_eq_true rfl, Nat.le_of_ble_eq_true rfl⟩ (s_sh_hasItem hX_11 x1 x2  h_14.1) (fun r X1 hq => ?_)
      obtain ⟨rfl, rfl⟩ := hq
      show Ev E m_ga_cell 37 [(0, .ref 0), (1, .int x1), (2, .int x2), (3, .int x3)] [.int (bz (iw x2 0 ((gI X_7 50 (Int32.toNatClampNeg x1)) - 1)))] X_7 (0, 0) Q
      refine ev_ifz_ne (pc := 37) (tgt := 43) d_ga_cell_37 (by decide) (fun c_16 => ?_) (fun c_16 => ?_)
      · have h_17 := h_14.2.1 c_16
        refine ev_aload_n (x := 0) (pc := 43) d_ga_cell_43 rfl ?_
        refine ev_getR (pc := 44) d_ga_cell_44 f_ga_83 (ly_at hX_11 0 rfl) gg_11 rfl (ly_rf hX_11 0 19 rfl) ?_
        refine ev_getR (pc := 47) d_ga_cell_47 f_ga_225 (ly_at hX_11 48 rfl) gg_9 rfl (ly_rf hX_11 48 2 rfl) ?_
        refine ev_iload_n (x := x1) (pc := 50) d_ga_cell_50 rfl ?_
        obtain ⟨hv_22, r_19, hq_21, hb_20, h_23⟩ := h_17
        refine ev_ald5 (pc := 51) d_ga_cell_51 (ly_at hX_11 51 rfl) hv_22 hq_21 ?_
        refine ev_iload_n (x := x2) (pc := 52) d_ga_cell_52 rfl ?_
        refine ev_aload_n (x := 0) (pc := 53) d_ga_cell_53 rfl ?_
        refine ev_getR (pc := 54) d_ga_cell_54 f_ga_83 (ly_at hX_11 0 rfl) gg_11 rfl (ly_rf hX_11 0 19 rfl) ?_
        refine ev_iload_n (x := x1) (pc := 57) d_ga_cell_57 rfl ?_
        refine ev_iload_n (x := x3) (pc := 58) d_ga_cell_58 rfl ?_
        obtain ⟨Qz_24, hc_25, hk_26⟩ := h_23
        refine ev_callV (z := m_sh_cutToSort) (as := [.int x1, .int x3]) (rest := [.int x2, .ref r_19]) (pc := 59) d_ga_cell_59 (ly_at hX_11 48 rfl) lt13_9 rfl l_ga_470 i_sh_cutToSort v_sh_cutToSort o_sh_cutToSort rfl rfl (Nat.le_of_ble_eq_true rfl) rfl (Nat.le_of_ble_eq_true rfl) ⟨Nat.le_of_ble_eq_true rfl, Nat.le_of_ble_eq_true rfl⟩ hc_25 (fun r_28 X_27 hq_29 => ?_)
        obtain ⟨v_33, rfl, hX_31, hm_32, h_30⟩ := hk_26 _ _ hq_29
        show Ev E m_ga_cell 62 [(0, .ref 0), (1, .int x1), (2, .int x2), (3, .int x3)] [.int v_33, .int x2, .ref r_19] X_27 (0, 0) Q
        refine ev_iast (pc := 62) d_ga_cell_62 hm_32 h_30.1 ?_
        refine ev_iconst (v := 1) (pc := 63) d_ga_cell_63 kc_i_1 ?_
        exact ev_iret (pc := 64) ⟨Nat.le_of_ble_eq_true rfl, Nat.le_of_ble_eq_true rfl⟩ d_ga_cell_64 rfl (vp_nar_int _) h_30.2
      · have h_18 := h_14.2.2 c_16
        refine ev_bipush (v := (-12)) (pc := 40) d_ga_cell_40 kc_b_m12 ?_
        exact ev_iret (pc := 42) ⟨Nat.le_of_ble_eq_true rfl, Nat.le_of_ble_eq_true rfl⟩ d_ga_cell_42 rfl (vp_nar_int _) h_18
    · have h_15 := h_10.2 c_13
      refine ev_bipush (v := (-11)) (pc := 25) d_ga_cell_25 kc_b_m11 ?_
      exact ev_iret (pc := 27) ⟨Nat.le_of_ble_eq_true rfl, Nat.le_of_ble_eq_true rfl⟩ d_ga_cell_27 rfl (vp_nar_int _) h_15
  · have h_3 := hh.2 c_1
    refine ev_bipush (v := (-2)) (pc := 11) d_ga_cell_11 kc_b_m2 ?_
    exact ev_iret (pc := 13) ⟨Nat.le_of_ble_eq_true rfl, Nat.le_of_ble_eq_true rfl⟩ d_ga_cell_13 rfl (vp_nar_int _) h_3
theorem b_ga_copy_0 {E : gp_E} {S : gp_S} {X : gp_H} {Q : Option Value → gp_H → Prop} {x1 : Int32} {x2 : Int32} {x3 : Int32} {x4 : Int32} {x5 : Int32} (hX : Lay S X)  (hh : (((iw x1 0 2) = false → Q (some (.int (-2))) X) ∧ ((iw x1 0 2) = true → (((iw x3 0 2) = true → (∃ Qz_7, Ev E m_sh_isMissing 0 [(0, .ref 48), (1, .int x1)] [] X (0, 0) Qz_7 ∧ ∀ r X_10, Qz_7 r X_10 → ∃ v_15 : Int32, r = some (.int v_15) ∧ Lay S X_10 ∧ ((¬ v_15 = 0 → Q (some (.int (-11))) X_10) ∧ (v_15 = 0 → (∃ Qz_19, Ev E m_sh_isMissing 0 [(0, .ref 48), (1, .int x3)] [] X_10 (0, 0) Qz_19 ∧ ∀ r X_22, Qz_19 r X_22 → ∃ v_27 : Int32, r = some (.int v_27) ∧ Lay S X_22 ∧ ((v_27 = 0 → (vp_in x1 3 ∧ (vp_in x3 3 ∧ (((gI X_22 49 (Int32.toNatClampNeg x1)) = (gI X_22 49 (Int32.toNatClampNeg x3)) → (∃ Qz_34, Ev E m_sh_hasRun 0 [(0, .ref 48), (1, .int x1), (2, .int x2), (3, .int x5)] [] X_22 (0, 0) Qz_34 ∧ ∀ r X_37, Qz_34 r X_37 → ∃ v_42 : Int32, r = some (.int v_42) ∧ Lay S X_37 ∧ ((v_42 = 0 → Q (some (.int (-12))) X_37) ∧ (¬ v_42 = 0 → (∃ Qz_46, Ev E m_sh_hasRun 0 [(0, .ref 48), (1, .int x3), (2, .int x4), (3, .int x5)] [] X_37 (0, 0) Qz_46 ∧ ∀ r X_49, Qz_46 r X_49 → ∃ v_54 : Int32, r = some (.int v_54) ∧ Lay S X_49 ∧ ((¬ v_54 = 0 → (vp_in x1 3 ∧ ∃ r_58 : Nat, X_49.2.2.1 51 (Int32.toNatClampNeg x1) = some r_58 ∧ gp_at X_49 r_58 (13, 40) ∧ (vp_in x3 3 ∧ ∃ r_63 : Nat, X_49.2.2.1 51 (Int32.toNatClampNeg x3) = some r_63 ∧ gp_at X_49 r_63 (13, 40) ∧ ((¬ x2 < 0 ∧ ¬ x4 < 0 ∧ ¬ x5 < 0 ∧ (Int32.toNatClampNeg x2) + (Int32.toNatClampNeg x5) ≤ 40 ∧ (Int32.toNatClampNeg x4) + (Int32.toNatClampNeg x5) ≤ 40) ∧ Q (some (.int x5)) (gp_cp X_49 r_58 r_63 (Int32.toNatClampNeg x2) (Int32.toNatClampNeg x4) (Int32.toNatClampNeg x5)))))) ∧ (v_54 = 0 → Q (some (.int (-12))) X_49))))))) ∧ (¬ (gI X_22 49 (Int32.toNatClampNeg x1)) = (gI X_22 49 (Int32.toNatClampNeg x3)) → Q (some (.int (-13))) X_22))))) ∧ (¬ v_27 = 0 → Q (some (.int (-11))) X_22))))))) ∧ ((iw x3 0 2) = false → Q (some (.int (-2))) X))))) : Ev E m_ga_copy 0 [(0, .ref 0), (1, .int x1), (2, .int x2), (3, .int x3), (4, .int x4), (5, .int x5)] [] X (0, 0) Q := by
  refine ev_aload_n (x := 0) (pc := 0) d_ga_copy_0 rfl ?_
  refine ev_getR (pc := 1) d_ga_copy_1 f_ga_83 (ly_at hX 0 rfl) gg_11 rfl (ly_rf hX 0 19 rfl) ?_
  refine ev_iload_n (x := x1) (pc := 4) d_ga_copy_4 rfl ?_
  refine ev_callV (z := m_sh_has) (as := [.int x1]) (rest := []) (pc := 5) d_ga_copy_5 (ly_at hX 48 rfl) lt13_9 rfl l_ga_212 i_sh_has v_sh_has o_sh_has rfl rfl (Nat.le_of_ble_eq_true rfl) rfl (Nat.le_of_ble_eq_true rfl) ⟨Nat.le_of_ble_eq_true rfl, Nat.le_of_ble_eq_true rfl⟩ (s_sh_has hX x1 ) (fun r X1 hq => ?_)
  obtain ⟨rfl, rfl⟩ := hq
  show Ev E m_ga_copy 8 [(0, .ref 0), (1, .int x1), (2, .int x2), (3, .int x3), (4, .int x4), (5, .int x5)] [.int (bz (iw x1 0 2))] X (0, 0) Q
  refine ev_ifz_eq (pc := 8) (tgt := 22) d_ga_copy_8 (by decide) (fun c_1 => ?_) (fun c_1 => ?_)
  · have h_2 := hh.1 c_1
    refine ev_bipush (v := (-2)) (pc := 22) d_ga_copy_22 kc_b_m2 ?_
    exact ev_iret (pc := 24) ⟨Nat.le_of_ble_eq_true rfl, Nat.le_of_ble_eq_true rfl⟩ d_ga_copy_24 rfl (vp_nar_int _) h_2
  · have h_3 := hh.2 c_1
    refine ev_aload_n (x := 0) (pc := 11) d_ga_copy_11 rfl ?_
    refine ev_getR (pc := 12) d_ga_copy_12 f_ga_83 (ly_at hX 0 rfl) gg_11 rfl (ly_rf hX 0 19 rfl) ?_
    refine ev_iload_n (x := x3) (pc := 15) d_ga_copy_15 rfl ?_
    refine ev_callV (z := m_sh_has) (as := [.int x3]) (rest := []) (pc := 16) d_ga_copy_16 (ly_at hX 48 rfl) lt13_9 rfl l_ga_212 i_sh_has v_sh_has o_sh_has rfl rfl (Nat.le_of_ble_eq_true rfl) rfl (Nat.le_of_ble_eq_true rfl) ⟨Nat.le_of_ble_eq_true rfl, Nat.le_of_ble_eq_true rfl⟩ (s_sh_has hX x3 ) (fun r X1 hq => ?_)
    obtain ⟨rfl, rfl⟩ := hq
    show Ev E m_ga_copy 19 [(0, .ref 0), (1, .int x1), (2, .int x2), (3, .int x3), (4, .int x4), (5, .int x5)] [.int (bz (iw x3 0 2))] X (0, 0) Q
    refine ev_ifz_ne (pc := 19) (tgt := 25) d_ga_copy_19 (by decide) (fun c_4 => ?_) (fun c_4 => ?_)
    · have h_5 := h_3.1 c_4
      refine ev_aload_n (x := 0) (pc := 25) d_ga_copy_25 rfl ?_
      refine ev_getR (pc := 26) d_ga_copy_26 f_ga_83 (ly_at hX 0 rfl) gg_11 rfl (ly_rf hX 0 19 rfl) ?_
      refine ev_iload_n (x := x1) (pc := 29) d_ga_copy_29 rfl ?_
      obtain ⟨Qz_7, hc_8, hk_9⟩ := h_5
      refine ev_callV (z := m_sh_isMissing) (as := [.int x1]) (rest := []) (pc := 30) d_ga_copy_30 (ly_at hX 48 rfl) lt13_9 rfl l_ga_215 i_sh_isMissing v_sh_isMissing o_sh_isMissing rfl rfl (Nat.le_of_ble_eq_true rfl) rfl (Nat.le_of_ble_eq_true rfl) ⟨Nat.le_of_ble_eq_true rfl, Nat.le_of_ble_eq_true rfl⟩ hc_8 (fun r_11 X_10 hq_12 => ?_)
      obtain ⟨v_15, rfl, hX_14, h_13⟩ := hk_9 _ _ hq_12
      show Ev E m_ga_copy 33 [(0, .ref 0), (1, .int x1), (2, .int x2), (3, .int x3), (4, .int x4), (5, .int x5)] [.int v_15] X_10 (0, 0) Q
      refine ev_if_ne (pc := 33) (tgt := 47) d_ga_copy_33 (by decide) (fun c_16 => ?_) (fun c_16 => ?_)
      · have h_17 := h_13.1 c_16
        refine ev_bipush (v := (-11)) (pc := 47) d_ga_copy_47 kc_b_m11 ?_
        exact ev_iret (pc := 49) ⟨Nat.le_of_ble_eq_true rfl, Nat.le_of_ble_eq_true rfl⟩ d_ga_copy_49 rfl (vp_nar_int _) h_17
      · have h_18 := h_13.2 c_16
        refine ev_aload_n (x := 0) (pc := 36) d_ga_copy_36 rfl ?_
        refine ev_getR (pc := 37) d_ga_copy_37 f_ga_83 (ly_at hX_14 0 rfl) gg_11 rfl (ly_rf hX_14 0 19 rfl) ?_
        refine ev_iload_n (x := x3) (pc := 40) d_ga_copy_40 rfl ?_
        obtain ⟨Qz_19, hc_20, hk_21⟩ := h_18
        refine ev_callV (z := m_sh_isMissing) (as := [.int x3]) (rest := []) (pc := 41) d_ga_copy_41 (ly_at hX_14 48 rfl) lt13_9 rfl l_ga_215 i_sh_isMissing v_sh_isMissing o_sh_isMissing rfl rfl (Nat.le_of_ble_eq_true rfl) rfl (Nat.le_of_ble_eq_true rfl) ⟨Nat.le_of_ble_eq_true rfl, Nat.le_of_ble_eq_true rfl⟩ hc_20 (fun r_23 X_22 hq_24 => ?_)
        obtain ⟨v_27, rfl, hX_26, h_25⟩ := hk_21 _ _ hq_24
        show Ev E m_ga_copy 44 [(0, .ref 0), (1, .int x1), (2, .int x2), (3, .int x3), (4, .int x4), (5, .int x5)] [.int v_27] X_22 (0, 0) Q
        refine ev_if_eq (pc := 44) (tgt := 50) d_ga_copy_44 (by decide) (fun c_28 => ?_) (fun c_28 => ?_)
        · have h_29 := h_25.1 c_28
          refine ev_aload_n (x := 0) (pc := 50) d_ga_copy_50 rfl ?_
          refine ev_getR (pc := 51) d_ga_copy_51 f_ga_83 (ly_at hX_26 0 rfl) gg_11 rfl (ly_rf hX_26 0 19 rfl) ?_
          refine ev_getR (pc := 54) d_ga_copy_54 f_ga_218 (ly_at hX_26 48 rfl) gg_9 rfl (ly_rf hX_26 48 0 rfl) ?_
          refine ev_iload_n (x := x1) (pc := 57) d_ga_copy_57 rfl ?_
          refine ev_ialdJ (v := (gI X_22 49 (Int32.toNatClampNeg x1))) (pc := 58) d_ga_copy_58 (ly_at hX_26 49 rfl) h_29.1 rfl ?_
          refine ev_aload_n (x := 0) (pc := 59) d_ga_copy_59 rfl ?_
          refine ev_getR (pc := 60) d_ga_copy_60 f_ga_83 (ly_at hX_26 0 rfl) gg_11 rfl (ly_rf hX_26 0 19 rfl) ?_
          refine ev_getR (pc := 63) d_ga_copy_63 f_ga_218 (ly_at hX_26 48 rfl) gg_9 rfl (ly_rf hX_26 48 0 rfl) ?_
          refine ev_iload_n (x := x3) (pc := 66) d_ga_copy_66 rfl ?_
          refine ev_ialdJ (v := (gI X_22 49 (Int32.toNatClampNeg x3))) (pc := 67) d_ga_copy_67 (ly_at hX_26 49 rfl) h_29.2.1 rfl ?_
          refine ev_icmp_eq (pc := 68) (tgt := 74) d_ga_copy_68 (by decide) (fun c_31 => ?_) (fun c_31 => ?_)
          · have h_32 := h_29.2.2.1 c_31
            refine ev_aload_n (x := 0) (pc := 74) d_ga_copy_74 rfl ?_
            refine ev_getR (pc := 75) d_ga_copy_75 f_ga_83 (ly_at hX_26 0 rfl) gg_11 rfl (ly_rf hX_26 0 19 rfl) ?_
            refine ev_iload_n (x := x1) (pc := 78) d_ga_copy_78 rfl ?_
            refine ev_iload_n (x := x2) (pc := 79) d_ga_copy_79 rfl ?_
            refine ev_iload (x := x5) (pc := 80) d_ga_copy_80 rfl ?_
            obtain ⟨Qz_34, hc_35, hk_36⟩ := h_32
            refine ev_callV (z := m_sh_hasRun) (as := [.int x1, .int x2, .int x5]) (rest := []) (pc := 82) d_ga_copy_82 (ly_at hX_26 48 rfl) lt13_9 rfl l_ga_473 i_sh_hasRun v_sh_hasRun o_sh_hasRun rfl rfl (Nat.le_of_ble_eq_true rfl) rfl (Nat.le_of_ble_eq_true rfl) ⟨Nat.le_of_ble_eq_true rfl, Nat.le_of_ble_eq_true rfl⟩ hc_35 (fun r_38 X_37 hq_39 => ?_)
            obtain ⟨v_42, rfl, hX_41, h_40⟩ := hk_36 _ _ hq_39
            show Ev E m_ga_copy 85 [(0, .ref 0), (1, .int x1), (2, .int x2), (3, .int x3), (4, .int x4), (5, .int x5)] [.int v_42] X_37 (0, 0) Q
            refine ev_if_eq (pc := 85) (tgt := 103) d_ga_copy_85 (by decide) (fun c_43 => ?_) (fun c_43 => ?_)
            · have h_44 := h_40.1 c_43
              refine ev_bipush (v := (-12)) (pc := 103) d_ga_copy_103 kc_b_m12 ?_
              exact ev_iret (pc := 105) ⟨Nat.le_of_ble_eq_true rfl, Nat.le_of_ble_eq_true rfl⟩ d_ga_copy_105 rfl (vp_nar_int _) h_44
            · have h_45 := h_40.2 c_43
              refine ev_aload_n (x := 0) (pc := 88) d_ga_copy_88 rfl ?_
              refine ev_getR (pc := 89) d_ga_copy_89 f_ga_83 (ly_at hX_41 0 rfl) gg_11 rfl (ly_rf hX_41 0 19 rfl) ?_
              refine ev_iload_n (x := x3) (pc := 92) d_ga_copy_92 rfl ?_
              refine ev_iload (x := x4) (pc := 93) d_ga_copy_93 rfl ?_
              refine ev_iload (x := x5) (pc := 95) d_ga_copy_95 rfl ?_
              obtain ⟨Qz_46, hc_47, hk_48⟩ := h_45
              refine ev_callV (z := m_sh_hasRun) (as := [.int x3, .int x4, .int x5]) (rest := []) (pc := 97) d_ga_copy_97 (ly_at hX_41 48 rfl) lt13_9 rfl l_ga_473 i_sh_hasRun v_sh_hasRun o_sh_hasRun rfl rfl (Nat.le_of_ble_eq_true rfl) rfl (Nat.le_of_ble_eq_true rfl) ⟨Nat.le_of_ble_eq_true rfl, Nat.le_of_ble_eq_true rfl⟩ hc_47 (fun r_50 X_49 hq_51 => ?_)
              obtain ⟨v_54, rfl, hX_53, h_52⟩ := hk_48 _ _ hq_51
              show Ev E m_ga_copy 100 [(0, .ref 0), (1, .int x1), (2, .int x2), (3, .int x3), (4, .int x4), (5, .int x5)] [.int v_54] X_49 (0, 0) Q
              refine ev_if_ne (pc := 100) (tgt := 106) d_ga_copy_100 (by decide) (fun c_55 => ?_) (fun c_55 => ?_)
              · have h_56 := h_52.1 c_55
                refine ev_aload_n (x := 0) (pc := 106) d_ga_copy_106 rfl ?_
                refine ev_getR (pc := 107) d_ga_copy_107 f_ga_83 (ly_at hX_53 0 rfl) gg_11 rfl (ly_rf hX_53 0 19 rfl) ?_
                refine ev_getR (pc := 110) d_ga_copy_110 f_ga_225 (ly_at hX_53 48 rfl) gg_9 rfl (ly_rf hX_53 48 2 rfl) ?_
                refine ev_iload_n (x := x1) (pc := 113) d_ga_copy_113 rfl ?_
                obtain ⟨hv_61, r_58, hq_60, hb_59, h_62⟩ := h_56
                refine ev_ald5 (pc := 114) d_ga_copy_114 (ly_at hX_53 51 rfl) hv_61 hq_60 ?_
                refine ev_iload_n (x := x2) (pc := 115) d_ga_copy_115 rfl ?_
                refine ev_aload_n (x := 0) (pc := 116) d_ga_copy_116 rfl ?_
                refine ev_getR (pc := 117) d_ga_copy_117 f_ga_83 (ly_at hX_53 0 rfl) gg_11 rfl (ly_rf hX_53 0 19 rfl) ?_
                refine ev_getR (pc := 120) d_ga_copy_120 f_ga_225 (ly_at hX_53 48 rfl) gg_9 rfl (ly_rf hX_53 48 2 rfl) ?_
                refine ev_iload_n (x := x3) (pc := 123) d_ga_copy_123 rfl ?_
                obtain ⟨hv_66, r_63, hq_65, hb_64, h_67⟩ := h_62
                refine ev_ald5 (pc := 124) d_ga_copy_124 (ly_at hX_53 51 rfl) hv_66 hq_65 ?_
                refine ev_iload (x := x4) (pc := 125) d_ga_copy_125 rfl ?_
                refine ev_iload (x := x5) (pc := 127) d_ga_copy_127 rfl ?_
                refine ev_acopy (pc := 129) d_ga_copy_129 l_ga_476 hb_59 hb_64 h_67.1.1 h_67.1.2.1 h_67.1.2.2.1 h_67.1.2.2.2.1 h_67.1.2.2.2.2 ⟨Nat.le_of_ble_eq_true rfl, Nat.le_of_ble_eq_true rfl⟩ ?_
                refine ev_iload (x := x5) (pc := 132) d_ga_copy_132 rfl ?_
                exact ev_iret (pc := 134) ⟨Nat.le_of_ble_eq_true rfl, Nat.le_of_ble_eq_true rfl⟩ d_ga_copy_134 rfl (vp_nar_int _) h_67.2
              · have h_57 := h_52.2 c_55
                refine ev_bipush (v := (-12)) (pc := 103) d_ga_copy_103 kc_b_m12 ?_
                exact ev_iret (pc := 105) ⟨Nat.le_of_ble_eq_true rfl, Nat.le_of_ble_eq_true rfl⟩ d_ga_copy_105 rfl (vp_nar_int _) h_57
          · have h_33 := h_29.2.2.2 c_31
            refine ev_bipush (v := (-13)) (pc := 71) d_ga_copy_71 kc_b_m13 ?_
            exact ev_iret (pc := 73) ⟨Nat.le_of_ble_eq_true rfl, Nat.le_of_ble_eq_true rfl⟩ d_ga_copy_73 rfl (vp_nar_int _) h_33
        · have h_30 := h_25.2 c_28
          refine ev_bipush (v := (-11)) (pc := 47) d_ga_copy_47 kc_b_m11 ?_
          exact ev_iret (pc := 49) ⟨Nat.le_of_ble_eq_true rfl, Nat.le_of_ble_eq_true rfl⟩ d_ga_copy_49 rfl (vp_nar_int _) h_30
    · have h_6 := h_3.2 c_4
      refine ev_bipush (v := (-2)) (pc := 22) d_ga_copy_22 kc_b_m2 ?_
      exact ev_iret (pc := 24) ⟨Nat.le_of_ble_eq_true rfl, Nat.le_of_ble_eq_true rfl⟩ d_ga_copy_24 rfl (vp_nar_int _) h_6
