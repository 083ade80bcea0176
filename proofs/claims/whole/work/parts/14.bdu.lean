theorem b_du_addFitter_0 {E : gp_E} {S : gp_S} {X : gp_H} {Q : Option Value → gp_H → Prop} {x1 : Int32} {x2 : Int32} {x3 : Int32} (hX : Lay S X)  (hh : (vp_in (gI X 31 0) 8 ∧ Q (some (.int (gI X 31 0))) (gp_sI (gp_sI (gp_sI (gp_sI X 32 (Int32.toNatClampNeg (gI X 31 0)) x1) 33 (Int32.toNatClampNeg (gI X 31 0)) x2) 34 (Int32.toNatClampNeg (gI X 31 0)) x3) 31 0 ((gI X 31 0) + 1)))) : Ev E m_du_addFitter 0 [(0, .ref 31), (1, .int x1), (2, .int x2), (3, .int x3)] [] X (0, 0) Q := by
  refine ev_aload_n (x := 31) (pc := 0) d_du_addFitter_0 rfl ?_
  refine ev_getR (pc := 1) d_du_addFitter_1 f_du_9 (ly_at hX 31 rfl) gg_0 rfl (ly_rf hX 31 1 rfl) ?_
  refine ev_aload_n (x := 31) (pc := 4) d_du_addFitter_4 rfl ?_
  refine ev_getJ (v := (gI X 31 0)) (pc := 5) d_du_addFitter_5 f_du_40 (ly_at hX 31 rfl) gg_0 rfl rfl ?_
  refine ev_iload_n (x := x1) (pc := 8) d_du_addFitter_8 rfl ?_
  refine ev_iast (pc := 9) d_du_addFitter_9 (ly_at hX 32 rfl) hh.1 ?_
  refine ev_aload_n (x := 31) (pc := 10) d_du_addFitter_10 rfl ?_
  refine ev_getR (pc := 11) d_du_addFitter_11 f_du_15 (ly_at (ly_sI hX) 31 rfl) gg_0 rfl (ly_rf (ly_sI hX) 31 2 rfl) ?_
  refine ev_aload_n (x := 31) (pc := 14) d_du_addFitter_14 rfl ?_
  refine ev_getJ (v := (gI X 31 0)) (pc := 15) d_du_addFitter_15 f_du_40 (ly_at (ly_sI hX) 31 rfl) gg_0 rfl rfl ?_
  refine ev_iload_n (x := x2) (pc := 18) d_du_addFitter_18 rfl ?_
  refine ev_iast (pc := 19) d_du_addFitter_19 (ly_at (ly_sI hX) 33 rfl) hh.1 ?_
  refine ev_aload_n (x := 31) (pc := 20) d_du_addFitter_20 rfl ?_
  refine ev_getR (pc := 21) d_du_addFitter_21 f_du_18 (ly_at (ly_sI (ly_sI hX)) 31 rfl) gg_0 rfl (ly_rf (ly_sI (ly_sI hX)) 31 3 rfl) ?_
  refine ev_aload_n (x := 31) (pc := 24) d_du_addFitter_24 rfl ?_
  refine ev_getJ (v := (gI X 31 0)) (pc := 25) d_du_addFitter_25 f_du_40 (ly_at (ly_sI (ly_sI hX)) 31 rfl) gg_0 rfl rfl ?_
  refine ev_iload_n (x := x3) (pc := 28) d_du_addFitter_28 rfl ?_
  refine ev_iast (pc := 29) d_du_addFitter_29 (ly_at (ly_sI (ly_sI hX)) 34 rfl) hh.1 ?_
  refine ev_aload_n (x := 31) (pc := 30) d_du_addFitter_30 rfl ?_
  refine ev_dup (pc := 31) d_du_addFitter_31 rfl ?_
  refine ev_getJ (v := (gI X 31 0)) (pc := 32) d_du_addFitter_32 f_du_40 (ly_at (ly_sI (ly_sI (ly_sI hX))) 31 rfl) gg_0 rfl rfl ?_
  refine ev_dup_x1 (pc := 35) d_du_addFitter_35 rfl rfl ?_
  refine ev_iconst (v := 1) (pc := 36) d_du_addFitter_36 kc_i_1 ?_
  refine ev_iadd (pc := 37) d_du_addFitter_37 ?_
  refine ev_putI (pc := 38) d_du_addFitter_38 f_du_40 (ly_at (ly_sI (ly_sI (ly_sI hX))) 31 rfl) gg_0 rfl (Or.inl rfl) (vp_nar_int _) rfl ?_
  exact ev_iret (pc := 41) ⟨Nat.le_of_ble_eq_true rfl, Nat.le_of_ble_eq_true rfl⟩ d_du_addFitter_41 rfl (vp_nar_int _) hh.2
theorem b_du_latestMinute_0 {E : gp_E} {S : gp_S} {X : gp_H} {Q : Option Value → gp_H → Prop}  (hX : Lay S X)  (hh : (((gI X 31 5) ≤ 0 → Q (some (.int 0)) X) ∧ (¬ (gI X 31 5) ≤ 0 → (vp_in ((gI X 31 5) - 1) 30 ∧ Q (some (.int (gI X 37 (Int32.toNatClampNeg ((gI X 31 5) - 1))))) X)))) : Ev E m_du_latestMinute 0 [(0, .ref 31)] [] X (0, 0) Q := by
  refine ev_aload_n (x := 31) (pc := 0) d_du_latestMinute_0 rfl ?_
  refine ev_getJ (v := (gI X 31 5)) (pc := 1) d_du_latestMinute_1 f_du_47 (ly_at hX 31 rfl) gg_0 rfl rfl ?_
  refine ev_if_le (pc := 4) (tgt := 21) d_du_latestMinute_4 (by decide) (fun c_1 => ?_) (fun c_1 => ?_)
  · have h_2 := hh.1 c_1
    refine ev_iconst (v := 0) (pc := 21) d_du_latestMinute_21 kc_i_0 ?_
    exact ev_iret (pc := 22) ⟨Nat.le_of_ble_eq_true rfl, Nat.le_of_ble_eq_true rfl⟩ d_du_latestMinute_22 rfl (vp_nar_int _) h_2
  · have h_3 := hh.2 c_1
    refine ev_aload_n (x := 31) (pc := 7) d_du_latestMinute_7 rfl ?_
    refine ev_getR (pc := 8) d_du_latestMinute_8 f_du_27 (ly_at hX 31 rfl) gg_0 rfl (ly_rf hX 31 7 rfl) ?_
    refine ev_aload_n (x := 31) (pc := 11) d_du_latestMinute_11 rfl ?_
    refine ev_getJ (v := (gI X 31 5)) (pc := 12) d_du_latestMinute_12 f_du_47 (ly_at hX 31 rfl) gg_0 rfl rfl ?_
    refine ev_iconst (v := 1) (pc := 15) d_du_latestMinute_15 kc_i_1 ?_
    refine ev_isub (pc := 16) d_du_latestMinute_16 ?_
    refine ev_ialdJ (v := (gI X 37 (Int32.toNatClampNeg ((gI X 31 5) - 1)))) (pc := 17) d_du_latestMinute_17 (ly_at hX 37 rfl) h_3.1 rfl ?_
    refine ev_goto (pc := 18) (tgt := 22) d_du_latestMinute_18 (by decide) ?_
    exact ev_iret (pc := 22) ⟨Nat.le_of_ble_eq_true rfl, Nat.le_of_ble_eq_true rfl⟩ d_du_latestMinute_22 rfl (vp_nar_int _) h_3.2
theorem b_du_addSmell_0 {E : gp_E} {S : gp_S} {X : gp_H} {Q : Option Value → gp_H → Prop} {x2 : Int32} {x3 : Int32} {x4 : Int32} (hX : Lay S X)  (hh : Ev E m_du_addSmell 9 [(0, .ref 31), (1, .ref 1), (2, .int x2), (3, .int x3), (4, .int x4), (5, .int (-1)), (6, .int (-1)), (7, .int 0)] [] X (0, 0) Q) : Ev E m_du_addSmell 0 [(0, .ref 31), (1, .ref 1), (2, .int x2), (3, .int x3), (4, .int x4)] [] X (0, 0) Q := by
  refine ev_iconst (v := (-1)) (pc := 0) d_du_addSmell_0 kc_i_m1 ?_
  refine ev_istore (L2 := [(0, .ref 31), (1, .ref 1), (2, .int x2), (3, .int x3), (4, .int x4), (5, .int (-1))]) (pc := 1) d_du_addSmell_1 rfl (Nat.le_of_ble_eq_true rfl) rfl ?_
  refine ev_iconst (v := (-1)) (pc := 3) d_du_addSmell_3 kc_i_m1 ?_
  refine ev_istore (L2 := [(0, .ref 31), (1, .ref 1), (2, .int x2), (3, .int x3), (4, .int x4), (5, .int (-1)), (6, .int (-1))]) (pc := 4) d_du_addSmell_4 rfl (Nat.le_of_ble_eq_true rfl) rfl ?_
  refine ev_iconst (v := 0) (pc := 6) d_du_addSmell_6 kc_i_0 ?_
  refine ev_istore (L2 := [(0, .ref 31), (1, .ref 1), (2, .int x2), (3, .int x3), (4, .int x4), (5, .int (-1)), (6, .int (-1)), (7, .int 0)]) (pc := 7) d_du_addSmell_7 rfl (Nat.le_of_ble_eq_true rfl) rfl ?_
  exact hh
theorem b_du_addSmell_9 {E : gp_E} {S : gp_S} {X : gp_H} {Q : Option Value → gp_H → Prop} {x2 : Int32} {x3 : Int32} {x4 : Int32} {x5 : Int32} {x6 : Int32} {x7 : Int32} (hX : Lay S X)  (hh : (((gI X 31 0) ≤ x7 → (vp_in (gI X 31 5) 30 ∧ ((x5 = (-1) → Ev E m_du_addSmell 156 [(0, .ref 31), (1, .ref 1), (2, .int x2), (3, .int x3), (4, .int x4), (5, .int x5), (6, .int x6), (7, .int x7)] [] (gp_sI (gp_sI (gp_sI (gp_sI X 36 (Int32.toNatClampNeg (gI X 31 5)) x2) 37 (Int32.toNatClampNeg (gI X 31 5)) x4) 38 (Int32.toNatClampNeg (gI X 31 5)) x5) 39 (Int32.toNatClampNeg (gI X 31 5)) x6) (0, 0) Q) ∧ (¬ x5 = (-1) → (vp_in x5 8 ∧ Ev E m_du_addSmell 156 [(0, .ref 31), (1, .ref 1), (2, .int x2), (3, .int x3), (4, .int x4), (5, .int x5), (6, .int x6), (7, .int x7)] [] (gp_sI (gp_sI (gp_sI (gp_sI (gp_sI (gp_sI X 36 (Int32.toNatClampNeg (gI X 31 5)) x2) 37 (Int32.toNatClampNeg (gI X 31 5)) x4) 38 (Int32.toNatClampNeg (gI X 31 5)) x5) 39 (Int32.toNatClampNeg (gI X 31 5)) x6) 35 (Int32.toNatClampNeg x5) (x6 + 15)) 34 (Int32.toNatClampNeg x5) x3) (0, 0) Q))))) ∧ (¬ (gI X 31 0) ≤ x7 → (vp_in x7 8 ∧ (∃ Qz_7, Ev E m_ne_fewestPipes 0 [(0, .ref 1), (1, .int (gI X 34 (Int32.toNatClampNeg x7))), (2, .int x3)] [] X (0, 0) Qz_7 ∧ ∀ r X_10, Qz_7 r X_10 → ∃ v_15 : Int32, r = some (.int v_15) ∧ Lay S X_10 ∧ ((¬ v_15 = (-1) → ((x5 = (-1) → Ev E m_du_addSmell 73 [(0, .ref 31), (1, .ref 1), (2, .int x2), (3, .int x3), (4, .int x4), (5, .int x5), (6, .int x6), (7, .int x7), (8, .int v_15), (9, .int ((if x4 < (gI X_10 35 (Int32.toNatClampNeg x7)) then (gI X_10 35 (Int32.toNatClampNeg x7)) else x4) + (v_15 * 4)))] [] X_10 (0, 0) Q) ∧ (¬ x5 = (-1) → ((x6 ≤ ((if x4 < (gI X_10 35 (Int32.toNatClampNeg x7)) then (gI X_10 35 (Int32.toNatClampNeg x7)) else x4) + (v_15 * 4)) → Ev E m_du_addSmell 9 [(0, .ref 31), (1, .ref 1), (2, .int x2), (3, .int x3), (4, .int x4), (5, .int x5), (6, .int x6), (7, .int (x7 + 1))] [] X_10 (0, 0) Q) ∧ (¬ x6 ≤ ((if x4 < (gI X_10 35 (Int32.toNatClampNeg x7)) then (gI X_10 35 (Int32.toNatClampNeg x7)) else x4) + (v_15 * 4)) → Ev E m_du_addSmell 73 [(0, .ref 31), (1, .ref 1), (2, .int x2), (3, .int x3), (4, .int x4), (5, .int x5), (6, .int x6), (7, .int x7), (8, .int v_15), (9, .int ((if x4 < (gI X_10 35 (Int32.toNatClampNeg x7)) then (gI X_10 35 (Int32.toNatClampNeg x7)) else x4) + (v_15 * 4)))] [] X_10 (0, 0) Q))))) ∧ (v_15 = (-1) → Ev E m_du_addSmell 9 [(0, .ref 31), (1, .ref 1), (2, .int x2), (3, .int x3), (4, .int x4), (5, .int x5), (6, .int x6), (7, .int (x7 + 1))] [] X_10 (0, 0) Q))))))) : Ev E m_du_addSmell 9 [(0, .ref 31), (1, .ref 1), (2, .int x2), (3, .int x3), (4, .int x4), (5, .int x5), (6, .int x6), (7, .int x7)] [] X (0, 0) Q := by
  refine ev_iload (x := x7) (pc := 9) d_du_addSmell_9 rfl ?_
  refine ev_aload_n (x := 31) (pc := 11) d_du_addSmell_11 rfl ?_
  refine ev_getJ (v := (gI X 31 0)) (pc := 12) d_du_addSmell_12 f_du_40 (ly_at hX 31 rfl) gg_0 rfl rfl ?_
  refine ev_icmp_ge (pc := 15) (tgt := 87) d_du_addSmell_15 (by decide) (fun c_1 => ?_) (fun c_1 => ?_)
  · have h_2 := hh.1 c_1
    refine ev_aload_n (x := 31) (pc := 87) d_du_addSmell_87 rfl ?_
    refine ev_getR (pc := 88) d_du_addSmell_88 f_du_24 (ly_at hX 31 rfl) gg_0 rfl (ly_rf hX 31 6 rfl) ?_
    refine ev_aload_n (x := 31) (pc := 91) d_du_addSmell_91 rfl ?_
    refine ev_getJ (v := (gI X 31 5)) (pc := 92) d_du_addSmell_92 f_du_47 (ly_at hX 31 rfl) gg_0 rfl rfl ?_
    refine ev_iload_n (x := x2) (pc := 95) d_du_addSmell_95 rfl ?_
    refine ev_iast (pc := 96) d_du_addSmell_96 (ly_at hX 36 rfl) h_2.1 ?_
    refine ev_aload_n (x := 31) (pc := 97) d_du_addSmell_97 rfl ?_
    refine ev_getR (pc := 98) d_du_addSmell_98 f_du_27 (ly_at (ly_sI hX) 31 rfl) gg_0 rfl (ly_rf (ly_sI hX) 31 7 rfl) ?_
    refine ev_aload_n (x := 31) (pc := 101) d_du_addSmell_101 rfl ?_
    refine ev_getJ (v := (gI X 31 5)) (pc := 102) d_du_addSmell_102 f_du_47 (ly_at (ly_sI hX) 31 rfl) gg_0 rfl rfl ?_
    refine ev_iload (x := x4) (pc := 105) d_du_addSmell_105 rfl ?_
    refine ev_iast (pc := 107) d_du_addSmell_107 (ly_at (ly_sI hX) 37 rfl) h_2.1 ?_
    refine ev_aload_n (x := 31) (pc := 108) d_du_addSmell_108 rfl ?_
    refine ev_getR (pc := 109) d_du_addSmell_109 f_du_30 (ly_at (ly_sI (ly_sI hX)) 31 rfl) gg_0 rfl (ly_rf (ly_sI (ly_sI hX)) 31 8 rfl) ?_
    refine ev_aload_n (x := 31) (pc := 112) d_du_addSmell_112 rfl ?_
    refine ev_getJ (v := (gI X 31 5)) (pc := 113) d_du_addSmell_113 f_du_47 (ly_at (ly_sI (ly_sI hX)) 31 rfl) gg_0 rfl rfl ?_
    refine ev_iload (x := x5) (pc := 116) d_du_addSmell_116 rfl ?_
    refine ev_iast (pc := 118) d_du_addSmell_118 (ly_at (ly_sI (ly_sI hX)) 38 rfl) h_2.1 ?_
    refine ev_aload_n (x := 31) (pc := 119) d_du_addSmell_119 rfl ?_
    refine ev_getR (pc := 120) d_du_addSmell_120 f_du_33 (ly_at (ly_sI (ly_sI (ly_sI hX))) 31 rfl) gg_0 rfl (ly_rf (ly_sI (ly_sI (ly_sI hX))) 31 9 rfl) ?_
    refine ev_aload_n (x := 31) (pc := 123) d_du_addSmell_123 rfl ?_
    refine ev_getJ (v := (gI X 31 5)) (pc := 124) d_du_addSmell_124 f_du_47 (ly_at (ly_sI (ly_sI (ly_sI hX))) 31 rfl) gg_0 rfl rfl ?_
    refine ev_iload (x := x6) (pc := 127) d_du_addSmell_127 rfl ?_
    refine ev_iast (pc := 129) d_du_addSmell_129 (ly_at (ly_sI (ly_sI (ly_sI hX))) 39 rfl) h_2.1 ?_
    refine ev_iload (x := x5) (pc := 130) d_du_addSmell_130 rfl ?_
    refine ev_iconst (v := (-1)) (pc := 132) d_du_addSmell_132 kc_i_m1 ?_
    refine ev_icmp_eq (pc := 133) (tgt := 156) d_du_addSmell_133 (by decide) (fun c_4 => ?_) (fun c_4 => ?_)
    · have h_5 := h_2.2.1 c_4
      exact h_5
    · have h_6 := h_2.2.2 c_4
      refine ev_aload_n (x := 31) (pc := 136) d_du_addSmell_136 rfl ?_
      refine ev_getR (pc := 137) d_du_addSmell_137 f_du_21 (ly_at (ly_sI (ly_sI (ly_sI (ly_sI hX)))) 31 rfl) gg_0 rfl (ly_rf (ly_sI (ly_sI (ly_sI (ly_sI hX)))) 31 4 rfl) ?_
      refine ev_iload (x := x5) (pc := 140) d_du_addSmell_140 rfl ?_
      refine ev_iload (x := x6) (pc := 142) d_du_addSmell_142 rfl ?_
      refine ev_bipush (v := 15) (pc := 144) d_du_addSmell_144 kc_b_15 ?_
      refine ev_iadd (pc := 146) d_du_addSmell_146 ?_
      refine ev_iast (pc := 147) d_du_addSmell_147 (ly_at (ly_sI (ly_sI (ly_sI (ly_sI hX)))) 35 rfl) h_6.1 ?_
      refine ev_aload_n (x := 31) (pc := 148) d_du_addSmell_148 rfl ?_
      refine ev_getR (pc := 149) d_du_addSmell_149 f_du_18 (ly_at (ly_sI (ly_sI (ly_sI (ly_sI (ly_sI hX))))) 31 rfl) gg_0 rfl (ly_rf (ly_sI (ly_sI (ly_sI (ly_sI (ly_sI hX))))) 31 3 rfl) ?_
      refine ev_iload (x := x5) (pc := 152) d_du_addSmell_152 rfl ?_
      refine ev_iload_n (x := x3) (pc := 154) d_du_addSmell_154 rfl ?_
      refine ev_iast (pc := 155) d_du_addSmell_155 (ly_at (ly_sI (ly_sI (ly_sI (ly_sI (ly_sI hX))))) 34 rfl) h_6.1 ?_
      exact h_6.2
  · have h_3 := hh.2 c_1
    refine ev_aload_n (x := 1) (pc := 18) d_du_addSmell_18 rfl ?_
    refine ev_aload_n (x := 31) (pc := 19) d_du_addSmell_19 rfl ?_
    refine ev_getR (pc := 20) d_du_addSmell_20 f_du_18 (ly_at hX 31 rfl) gg_0 rfl (ly_rf hX 31 3 rfl) ?_
    refine ev_iload (x := x7) (pc := 23) d_du_addSmell_23 rfl ?_
    refine ev_ialdJ (v := (gI X 34 (Int32.toNatClampNeg x7))) (pc := 25) d_du_addSmell_25 (ly_at hX 34 rfl) h_3.1 rfl ?_
    refine ev_iload_n (x := x3) (pc := 26) d_du_addSmell_26 rfl ?_
    obtain ⟨Qz_7, hc_8, hk_9⟩ := h_3.2
    refine ev_callV (z := m_ne_fewestPipes) (as := [.int (gI X 34 (Int32.toNatClampNeg x7)), .int x3]) (rest := []) (pc := 27) d_du_addSmell_27 (ly_at hX 1 rfl) lt13_5 rfl l_du_54 i_ne_fewestPipes v_ne_fewestPipes o_ne_fewestPipes rfl rfl (Nat.le_of_ble_eq_true rfl) rfl (Nat.le_of_ble_eq_true rfl) ⟨Nat.le_of_ble_eq_true rfl, Nat.le_of_ble_eq_true rfl⟩ hc_8 (fun r_11 X_10 hq_12 => ?_)
    obtain ⟨v_15, rfl, hX_14, h_13⟩ := hk_9 _ _ hq_12
    show Ev E m_du_addSmell 30 [(0, .ref 31), (1, .ref 1), (2, .int x2), (3, .int x3), (4, .int x4), (5, .int x5), (6, .int x6), (7, .int x7)] [.int v_15] X_10 (0, 0) Q
    refine ev_istore (L2 := [(0, .ref 31), (1, .ref 1), (2, .int x2), (3, .int x3), (4, .int x4), (5, .int x5), (6, .int x6), (7, .int x7), (8, .int v_15)]) (pc := 30) d_du_addSmell_30 rfl (Nat.le_of_ble_eq_true rfl) rfl ?_
    refine ev_iload (x := v_15) (pc := 32) d_du_addSmell_32 rfl ?_
    refine ev_iconst (v := (-1)) (pc := 34) d_du_addSmell_34 kc_i_m1 ?_
    refine ev_icmp_ne (pc := 35) (tgt := 41) d_du_addSmell_35 (by decide) (fun c_16 => ?_) (fun c_16 => ?_)
    · have h_17 := h_13.1 c_16
      refine ev_iload (x := x4) (pc := 41) d_du_addSmell_41 rfl ?_
      refine ev_aload_n (x := 31) (pc := 43) d_du_addSmell_43 rfl ?_
      refine ev_getR (pc := 44) d_du_addSmell_44 f_du_21 (ly_at hX_14 31 rfl) gg_0 rfl (ly_rf hX_14 31 4 rfl) ?_
      refine ev_iload (x := x7) (pc := 47) d_du_addSmell_47 rfl ?_
      refine ev_ialdJ (v := (gI X_10 35 (Int32.toNatClampNeg x7))) (pc := 49) d_du_addSmell_49 (ly_at hX_14 35 rfl) h_3.1 rfl ?_
      refine ev_mmax (pc := 50) d_du_addSmell_50 l_du_60 ⟨Nat.le_of_ble_eq_true rfl, Nat.le_of_ble_eq_true rfl⟩ ⟨Nat.le_of_ble_eq_true rfl, Nat.le_of_ble_eq_true rfl⟩ ?_
      refine ev_iload (x := v_15) (pc := 53) d_du_addSmell_53 rfl ?_
      refine ev_iconst (v := 4) (pc := 55) d_du_addSmell_55 kc_i_4 ?_
      refine ev_imul (pc := 56) d_du_addSmell_56 ?_
      refine ev_iadd (pc := 57) d_du_addSmell_57 ?_
      refine ev_istore (L2 := [(0, .ref 31), (1, .ref 1), (2, .int x2), (3, .int x3), (4, .int x4), (5, .int x5), (6, .int x6), (7, .int x7), (8, .int v_15), (9, .int ((if x4 < (gI X_10 35 (Int32.toNatClampNeg x7)) then (gI X_10 35 (Int32.toNatClampNeg x7)) else x4) + (v_15 * 4)))]) (pc := 58) d_du_addSmell_58 rfl (Nat.le_of_ble_eq_true rfl) rfl ?_
      refine ev_iload (x := x5) (pc := 60) d_du_addSmell_60 rfl ?_
      refine ev_iconst (v := (-1)) (pc := 62) d_du_addSmell_62 kc_i_m1 ?_
      refine ev_icmp_eq (pc := 63) (tgt := 73) d_du_addSmell_63 (by decide) (fun c_19 => ?_) (fun c_19 => ?_)
      · have h_20 := h_17.1 c_19
        exact h_20
      · have h_21 := h_17.2 c_19
        refine ev_iload (x := ((if x4 < (gI X_10 35 (Int32.toNatClampNeg x7)) then (gI X_10 35 (Int32.toNatClampNeg x7)) else x4) + (v_15 * 4))) (pc := 66) d_du_addSmell_66 rfl ?_
        refine ev_iload (x := x6) (pc := 68) d_du_addSmell_68 rfl ?_
        refine ev_icmp_ge (pc := 70) (tgt := 81) d_du_addSmell_70 (by decide) (fun c_22 => ?_) (fun c_22 => ?_)
        · have h_23 := h_21.1 c_22
          refine ev_iinc (v := (x7 + 1)) (L2 := [(0, .ref 31), (1, .ref 1), (2, .int x2), (3, .int x3), (4, .int x4), (5, .int x5), (6, .int x6), (7, .int (x7 + 1)), (8, .int v_15), (9, .int ((if x4 < (gI X_10 35 (Int32.toNatClampNeg x7)) then (gI X_10 35 (Int32.toNatClampNeg x7)) else x4) + (v_15 * 4)))]) (pc := 81) d_du_addSmell_81 rfl (by rw [kc_i_1]) rfl (Nat.le_of_ble_eq_true rfl) rfl ?_
          refine ev_goto (pc := 84) (tgt := 9) d_du_addSmell_84 (by decide) ?_
          exact ev_sub [(0, .ref 31), (1, .ref 1), (2, .int x2), (3, .int x3), (4, .int x4), (5, .int x5), (6, .int x6), (7, .int (x7 + 1))] (List.forall_mem_cons.mpr ⟨rfl, (List.forall_mem_cons.mpr ⟨rfl, (List.forall_mem_cons.mpr ⟨rfl, (List.forall_mem_cons.mpr ⟨rfl, (List.forall_mem_cons.mpr ⟨rfl, (List.forall_mem_cons.mpr ⟨rfl, (List.forall_mem_cons.mpr ⟨rfl, (List.forall_mem_cons.mpr ⟨rfl, (fun _ h => nomatch h)⟩)⟩)⟩)⟩)⟩)⟩)⟩)⟩) h_23
        · have h_24 := h_21.2 c_22
          exact h_24
    · have h_18 := h_13.2 c_16
      refine ev_goto (pc := 38) (tgt := 81) d_du_addSmell_38 (by decide) ?_
      refine ev_iinc (v := (x7 + 1)) (L2 := [(0, .ref 31), (1, .ref 1), (2, .int x2), (3, .int x3), (4, .int x4), (5, .int x5), (6, .int x6), (7, .int (x7 + 1)), (8, .int v_15)]) (pc := 81) d_du_addSmell_81 rfl (by rw [kc_i_1]) rfl (Nat.le_of_ble_eq_true rfl) rfl ?_
      refine ev_goto (pc := 84) (tgt := 9) d_du_addSmell_84 (by decide) ?_
      exact ev_sub [(0, .ref 31), (1, .ref 1), (2, .int x2), (3, .int x3), (4, .int x4), (5, .int x5), (6, .int x6), (7, .int (x7 + 1))] (List.forall_mem_cons.mpr ⟨rfl, (List.forall_mem_cons.mpr ⟨rfl, (List.forall_mem_cons.mpr ⟨rfl, (List.forall_mem_cons.mpr ⟨rfl, (List.forall_mem_cons.mpr ⟨rfl, (List.forall_mem_cons.mpr ⟨rfl, (List.forall_mem_cons.mpr ⟨rfl, (List.forall_mem_cons.mpr ⟨rfl, (fun _ h => nomatch h)⟩)⟩)⟩)⟩)⟩)⟩)⟩)⟩) h_18
theorem b_du_addSmell_73 {E : gp_E} {S : gp_S} {X : gp_H} {Q : Option Value → gp_H → Prop} {x2 : Int32} {x3 : Int32} {x4 : Int32} {x5 : Int32} {x6 : Int32} {x7 : Int32} {x8 : Int32} {x9 : Int32} (hX : Lay S X)  (hh : Ev E m_du_addSmell 9 [(0, .ref 31), (1, .ref 1), (2, .int x2), (3, .int x3), (4, .int x4), (5, .int x7), (6, .int x9), (7, .int (x7 + 1))] [] X (0, 0) Q) : Ev E m_du_addSmell 73 [(0, .ref 31), (1, .ref 1), (2, .int x2), (3, .int x3), (4, .int x4), (5, .int x5), (6, .int x6), (7, .int x7), (8, .int x8), (9, .int x9)] [] X (0, 0) Q := by
  refine ev_iload (x := x7) (pc := 73) d_du_addSmell_73 rfl ?_
  refine ev_istore (L2 := [(0, .ref 31), (1, .ref 1), (2, .int x2), (3, .int x3), (4, .int x4), (5, .int x7), (6, .int x6), (7, .int x7), (8, .int x8), (9, .int x9)]) (pc := 75) d_du_addSmell_75 rfl (Nat.le_of_ble_eq_true rfl) rfl ?_
  refine ev_iload (x := x9) (pc := 77) d_du_addSmell_77 rfl ?_
  refine ev_istore (L2 := [(0, .ref 31), (1, .ref 1), (2, .int x2), (3, .int x3), (4, .int x4), (5, .int x7), (6, .int x9), (7, .int x7), (8, .int x8), (9, .int x9)]) (pc := 79) d_du_addSmell_79 rfl (Nat.le_of_ble_eq_true rfl) rfl ?_
  refine ev_iinc (v := (x7 + 1)) (L2 := [(0, .ref 31), (1, .ref 1), (2, .int x2), (3, .int x3), (4, .int x4), (5, .int x7), (6, .int x9), (7, .int (x7 + 1)), (8, .int x8), (9, .int x9)]) (pc := 81) d_du_addSmell_81 rfl (by rw [kc_i_1]) rfl (Nat.le_of_ble_eq_true rfl) rfl ?_
  refine ev_goto (pc := 84) (tgt := 9) d_du_addSmell_84 (by decide) ?_
  exact ev_sub [(0, .ref 31), (1, .ref 1), (2, .int x2), (3, .int x3), (4, .int x4), (5, .int x7), (6, .int x9), (7, .int (x7 + 1))] (List.forall_mem_cons.mpr ⟨rfl, (List.forall_mem_cons.mpr ⟨rfl, (List.forall_mem_cons.mpr ⟨rfl, (List.forall_mem_cons.mpr ⟨rfl, (List.forall_mem_cons.mpr ⟨rfl, (List.forall_mem_cons.mpr ⟨rfl, (List.forall_mem_cons.mpr ⟨rfl, (List.forall_mem_cons.mpr ⟨rfl, (fun _ h => nomatch h)⟩)⟩)⟩)⟩)⟩)⟩)⟩)⟩) hh
theorem b_du_addSmell_156 {E : gp_E} {S : gp_S} {X : gp_H} {Q : Option Value → gp_H → Prop} {x2 : Int32} {x3 : Int32} {x4 : Int32} {x5 : Int32} {x6 : Int32} {x7 : Int32} (hX : Lay S X)  (hh : Q (some (.int (gI X 31 5))) (gp_sI X 31 5 ((gI X 31 5) + 1))) : Ev E m_du_addSmell 156 [(0, .ref 31), (1, .ref 1), (2, .int x2), (3, .int x3), (4, .int x4), (5, .int x5), (6, .int x6), (7, .int x7)] [] X (0, 0) Q := by
  refine ev_aload_n (x := 31) (pc := 156) d_du_addSmell_156 rfl ?_
  refine ev_dup (pc := 157) d_du_addSmell_157 rfl ?_
  refine ev_getJ (v := (gI X 31 5)) (pc := 158) d_du_addSmell_158 f_du_47 (ly_at hX 31 rfl) gg_0 rfl rfl ?_
  refine ev_dup_x1 (pc := 161) d_du_addSmell_161 rfl rfl ?_
  refine ev_iconst (v := 1) (pc := 162) d_du_addSmell_162 kc_i_1 ?_
  refine ev_iadd (pc := 163) d_du_addSmell_163 ?_
  refine ev_putI (pc := 164) d_du_addSmell_164 f_du_47 (ly_at hX 31 rfl) gg_0 rfl (Or.inl rfl) (vp_nar_int _) rfl ?_
  exact ev_iret (pc := 167) ⟨Nat.le_of_ble_eq_true rfl, Nat.le_of_ble_eq_true rfl⟩ d_du_addSmell_167 rfl (vp_nar_int _) hh
theorem b_du_isLate_0 {E : gp_E} {S : gp_S} {X : gp_H} {Q : Option Value → gp_H → Prop} {x1 : Int32} (hX : Lay S X)  (hh : (vp_in x1 30 ∧ (((gI X 38 (Int32.toNatClampNeg x1)) = (-1) → Q (some (.int 1)) X) ∧ (¬ (gI X 38 (Int32.toNatClampNeg x1)) = (-1) → ((((gI X 39 (Int32.toNatClampNeg x1)) - (gI X 37 (Int32.toNatClampNeg x1))) ≤ (gI X 31 10) → Q (some (.int 0)) X) ∧ (¬ ((gI X 39 (Int32.toNatClampNeg x1)) - (gI X 37 (Int32.toNatClampNeg x1))) ≤ (gI X 31 10) → Q (some (.int 1)) X)))))) : Ev E m_du_isLate 0 [(0, .ref 31), (1, .int x1)] [] X (0, 0) Q := by
  refine ev_aload_n (x := 31) (pc := 0) d_du_isLate_0 rfl ?_
  refine ev_getR (pc := 1) d_du_isLate_1 f_du_30 (ly_at hX 31 rfl) gg_0 rfl (ly_rf hX 31 8 rfl) ?_
  refine ev_iload_n (x := x1) (pc := 4) d_du_isLate_4 rfl ?_
  refine ev_ialdJ (v := (gI X 38 (Int32.toNatClampNeg x1))) (pc := 5) d_du_isLate_5 (ly_at hX 38 rfl) hh.1 rfl ?_
  refine ev_iconst (v := (-1)) (pc := 6) d_du_isLate_6 kc_i_m1 ?_
  refine ev_icmp_eq (pc := 7) (tgt := 30) d_du_isLate_7 (by decide) (fun c_1 => ?_) (fun c_1 => ?_)
  · have h_2 := hh.2.1 c_1
    refine ev_iconst (v := 1) (pc := 30) d_du_isLate_30 kc_i_1 ?_
    refine ev_goto (pc := 31) (tgt := 35) d_du_isLate_31 (by decide) ?_
    exact ev_iret (pc := 35) ⟨Nat.le_of_ble_eq_true rfl, Nat.le_of_ble_eq_true rfl⟩ d_du_isLate_35 rfl nb_1 h_2
  · have h_3 := hh.2.2 c_1
    refine ev_aload_n (x := 31) (pc := 10) d_du_isLate_10 rfl ?_
    refine ev_getR (pc := 11) d_du_isLate_11 f_du_33 (ly_at hX 31 rfl) gg_0 rfl (ly_rf hX 31 9 rfl) ?_
    refine ev_iload_n (x := x1) (pc := 14) d_du_isLate_14 rfl ?_
    refine ev_ialdJ (v := (gI X 39 (Int32.toNatClampNeg x1))) (pc := 15) d_du_isLate_15 (ly_at hX 39 rfl) hh.1 rfl ?_
    refine ev_aload_n (x := 31) (pc := 16) d_du_isLate_16 rfl ?_
    refine ev_getR (pc := 17) d_du_isLate_17 f_du_27 (ly_at hX 31 rfl) gg_0 rfl (ly_rf hX 31 7 rfl) ?_
    refine ev_iload_n (x := x1) (pc := 20) d_du_isLate_20 rfl ?_
    refine ev_ialdJ (v := (gI X 37 (Int32.toNatClampNeg x1))) (pc := 21) d_du_isLate_21 (ly_at hX 37 rfl) hh.1 rfl ?_
    refine ev_isub (pc := 22) d_du_isLate_22 ?_
    refine ev_aload_n (x := 31) (pc := 23) d_du_isLate_23 rfl ?_
    refine ev_getJ (v := (gI X 31 10)) (pc := 24) d_du_isLate_24 f_du_36 (ly_at hX 31 rfl) gg_0 rfl rfl ?_
    refine ev_icmp_le (pc := 27) (tgt := 34) d_du_isLate_27 (by decide) (fun c_4 => ?_) (fun c_4 => ?_)
    · have h_5 := h_3.1 c_4
      refine ev_iconst (v := 0) (pc := 34) d_du_isLate_34 kc_i_0 ?_
      exact ev_iret (pc := 35) ⟨Nat.le_of_ble_eq_true rfl, Nat.le_of_ble_eq_true rfl⟩ d_du_isLate_35 rfl nb_0 h_5
    · have h_6 := h_3.2 c_4
      refine ev_iconst (v := 1) (pc := 30) d_du_isLate_30 kc_i_1 ?_
      refine ev_goto (pc := 31) (tgt := 35) d_du_isLate_31 (by decide) ?_
      exact ev_iret (pc := 35) ⟨Nat.le_of_ble_eq_true rfl, Nat.le_of_ble_eq_true rfl⟩ d_du_isLate_35 rfl nb_1 h_6
theorem b_la_bars_0 {E : gp_E} {S : gp_S} {X : gp_H} {Q : Option Value → gp_H → Prop} {x1 : Int32} {x2 : Int32} (hX : Lay S X)  (hh : Ev E m_la_bars 2 [(0, .ref 40), (1, .int x1), (2, .int x2), (3, .int 0)] [] X (0, 0) Q) : Ev E m_la_bars 0 [(0, .ref 40), (1, .int x1), (2, .int x2)] [] X (0, 0) Q := by
  refine ev_iconst (v := 0) (pc := 0) d_la_bars_0 kc_i_0 ?_
  refine ev_istore_n (L2 := [(0, .ref 40), (1, .int x1), (2, .int x2), (3, .int 0)]) (pc := 1) d_la_bars_1 rfl (Nat.le_of_ble_eq_true rfl) rfl ?_
  exact hh
theorem b_la_bars_2 {E : gp_E} {S : gp_S} {X : gp_H} {Q : Option Value → gp_H → Prop} {x1 : Int32} {x2 : Int32} {x3 : Int32} (hX : Lay S X)  (hh : (((gI X 40 2) ≤ x3 → Q (some (.int 0)) X) ∧ (¬ (gI X 40 2) ≤ x3 → (vp_in x3 10 ∧ ((¬ (gI X 42 (Int32.toNatClampNeg x3)) = 0 → Ev E m_la_bars 2 [(0, .ref 40), (1, .int x1), (2, .int x2), (3, .int (x3 + 1))] [] X (0, 0) Q) ∧ ((gI X 42 (Int32.toNatClampNeg x3)) = 0 → ((¬ (gI X 43 (Int32.toNatClampNeg x3)) = x1 → Ev E m_la_bars 2 [(0, .ref 40), (1, .int x1), (2, .int x2), (3, .int (x3 + 1))] [] X (0, 0) Q) ∧ ((gI X 43 (Int32.toNatClampNeg x3)) = x1 → (((iw x2 (gI X 44 (Int32.toNatClampNeg x3)) (gI X 45 (Int32.toNatClampNeg x3))) = false → Ev E m_la_bars 2 [(0, .ref 40), (1, .int x1), (2, .int x2), (3, .int (x3 + 1))] [] X (0, 0) Q) ∧ ((iw x2 (gI X 44 (Int32.toNatClampNeg x3)) (gI X 45 (Int32.toNatClampNeg x3))) = true → Q (some (.int 1)) X)))))))))) : Ev E m_la_bars 2 [(0, .ref 40), (1, .int x1), (2, .int x2), (3, .int x3)] [] X (0, 0) Q := by
  refine ev_iload_n (x := x3) (pc := 2) d_la_bars_2 rfl ?_
  refine ev_aload_n (x := 40) (pc := 3) d_la_bars_3 rfl ?_
  refine ev_getJ (v := (gI X 40 2)) (pc := 4) d_la_bars_4 f_la_56 (ly_at hX 40 rfl) gg_4 rfl rfl ?_
  refine ev_icmp_ge (pc := 7) (tgt := 56) d_la_bars_7 (by decide) (fun c_1 => ?_) (fun c_1 => ?_)
  · have h_2 := hh.1 c_1
    refine ev_iconst (v := 0) (pc := 56) d_la_bars_56 kc_i_0 ?_
    exact ev_iret (pc := 57) ⟨Nat.le_of_ble_eq_true rfl, Nat.le_of_ble_eq_true rfl⟩ d_la_bars_57 rfl nb_0 h_2
  · have h_3 := hh.2 c_1
    refine ev_aload_n (x := 40) (pc := 10) d_la_bars_10 rfl ?_
    refine ev_getR (pc := 11) d_la_bars_11 f_la_15 (ly_at hX 40 rfl) gg_4 rfl (ly_rf hX 40 3 rfl) ?_
    refine ev_iload_n (x := x3) (pc := 14) d_la_bars_14 rfl ?_
    refine ev_zaldJ (v := (gI X 42 (Int32.toNatClampNeg x3))) (pc := 15) d_la_bars_15 (ly_at hX 42 rfl) h_3.1 rfl ?_
    refine ev_if_ne (pc := 16) (tgt := 50) d_la_bars_16 (by decide) (fun c_4 => ?_) (fun c_4 => ?_)
    · have h_5 := h_3.2.1 c_4
      refine ev_iinc (v := (x3 + 1)) (L2 := [(0, .ref 40), (1, .int x1), (2, .int x2), (3, .int (x3 + 1))]) (pc := 50) d_la_bars_50 rfl (by rw [kc_i_1]) rfl (Nat.le_of_ble_eq_true rfl) rfl ?_
      refine ev_goto (pc := 53) (tgt := 2) d_la_bars_53 (by decide) ?_
      exact h_5
    · have h_6 := h_3.2.2 c_4
      refine ev_aload_n (x := 40) (pc := 19) d_la_bars_19 rfl ?_
      refine ev_getR (pc := 20) d_la_bars_20 f_la_19 (ly_at hX 40 rfl) gg_4 rfl (ly_rf hX 40 4 rfl) ?_
      refine ev_iload_n (x := x3) (pc := 23) d_la_bars_23 rfl ?_
      refine ev_ialdJ (v := (gI X 43 (Int32.toNatClampNeg x3))) (pc := 24) d_la_bars_24 (ly_at hX 43 rfl) h_3.1 rfl ?_
      refine ev_iload_n (x := x1) (pc := 25) d_la_bars_25 rfl ?_
      refine ev_icmp_ne (pc := 26) (tgt := 50) d_la_bars_26 (by decide) (fun c_7 => ?_) (fun c_7 => ?_)
      · have h_8 := h_6.1 c_7
        refine ev_iinc (v := (x3 + 1)) (L2 := [(0, .ref 40), (1, .int x1), (2, .int x2), (3, .int (x3 + 1))]) (pc := 50) d_la_bars_50 rfl (by rw [kc_i_1]) rfl (Nat.le_of_ble_eq_true rfl) rfl ?_
        refine ev_goto (pc := 53) (tgt := 2) d_la_bars_53 (by decide) ?_
        exact h_8
      · have h_9 := h_6.2 c_7
        refine ev_iload_n (x := x2) (pc := 29) d_la_bars_29 rfl ?_
        refine ev_aload_n (x := 40) (pc := 30) d_la_bars_30 rfl ?_
        refine ev_getR (pc := 31) d_la_bars_31 f_la_22 (ly_at hX 40 rfl) gg_4 rfl (ly_rf hX 40 5 rfl) ?_
        refine ev_iload_n (x := x3) (pc := 34) d_la_bars_34 rfl ?_
        refine ev_ialdJ (v := (gI X 44 (Int32.toNatClampNeg x3))) (pc := 35) d_la_bars_35 (ly_at hX 44 rfl) h_3.1 rfl ?_
        refine ev_aload_n (x := 40) (pc := 36) d_la_bars_36 rfl ?_
        refine ev_getR (pc := 37) d_la_bars_37 f_la_25 (ly_at hX 40 rfl) gg_4 rfl (ly_rf hX 40 6 rfl) ?_
        refine ev_iload_n (x := x3) (pc := 40) d_la_bars_40 rfl ?_
        refine ev_ialdJ (v := (gI X 45 (Int32.toNatClampNeg x3))) (pc := 41) d_la_bars_41 (ly_at hX 45 rfl) h_3.1 rfl ?_
        refine ev_callSN (z := m_ga_isWithin) (as := [.int x2, .int (gI X 44 (Int32.toNatClampNeg x3)), .int (gI X 45 (Int32.toNatClampNeg x3))]) (rest := []) (pc := 42) d_la_bars_42 l_la_79 i_ga_isWithin o_ga_isWithin rfl rfl (Nat.le_of_ble_eq_true rfl) rfl (Nat.le_of_ble_eq_true rfl) ⟨Nat.le_of_ble_eq_true rfl, Nat.le_of_ble_eq_true rfl⟩ (s_ga_isWithin hX x2 (gI X 44 (Int32.toNatClampNeg x3)) (gI X 45 (Int32.toNatClampNeg x3))) (fun r X1 hq => ?_)
        obtain ⟨rfl, rfl⟩ := hq
        show Ev E m_la_bars 45 [(0, .ref 40), (1, .int x1), (2, .int x2), (3, .int x3)] [.int (bz (iw x2 (gI X 44 (Int32.toNatClampNeg x3)) (gI X 45 (Int32.toNatClampNeg x3))))] X (0, 0) Q
        refine ev_ifz_eq (pc := 45) (tgt := 50) d_la_bars_45 (by decide) (fun c_10 => ?_) (fun c_10 => ?_)
        · have h_11 := h_9.1 c_10
          refine ev_iinc (v := (x3 + 1)) (L2 := [(0, .ref 40), (1, .int x1), (2, .int x2), (3, .int (x3 + 1))]) (pc := 50) d_la_bars_50 rfl (by rw [kc_i_1]) rfl (Nat.le_of_ble_eq_true rfl) rfl ?_
          refine ev_goto (pc := 53) (tgt := 2) d_la_bars_53 (by decide) ?_
          exact h_11
        · have h_12 := h_9.2 c_10
          refine ev_iconst (v := 1) (pc := 48) d_la_bars_48 kc_i_1 ?_
          exact ev_iret (pc := 49) ⟨Nat.le_of_ble_eq_true rfl, Nat.le_of_ble_eq_true rfl⟩ d_la_bars_49 rfl nb_1 h_12
theorem b_la_addBytes_0 {E : gp_E} {S : gp_S} {X : gp_H} {Q : Option Value → gp_H → Prop} {x1 : Int32} {x2 : Int32} (hX : Lay S X)  (hh : Ev E m_la_addBytes 4 [(0, .ref 40), (1, .int x1), (2, .int x2), (3, .int (x2 - 1))] [] X (0, 0) Q) : Ev E m_la_addBytes 0 [(0, .ref 40), (1, .int x1), (2, .int x2)] [] X (0, 0) Q := by
  refine ev_iload_n (x := x2) (pc := 0) d_la_addBytes_0 rfl ?_
  refine ev_iconst (v := 1) (pc := 1) d_la_addBytes_1 kc_i_1 ?_
  refine ev_isub (pc := 2) d_la_addBytes_2 ?_
  refine ev_istore_n (L2 := [(0, .ref 40), (1, .int x1), (2, .int x2), (3, .int (x2 - 1))]) (pc := 3) d_la_addBytes_3 rfl (Nat.le_of_ble_eq_true rfl) rfl ?_
  exact hh
theorem b_la_addBytes_4 {E : gp_E} {S : gp_S} {X : gp_H} {Q : Option Value → gp_H → Prop} {x1 : Int32} {x2 : Int32} {x3 : Int32} (hX : Lay S X)  (hh : ((x3 < 0 → Q (some (.int (gI X 40 0))) X) ∧ (¬ x3 < 0 → (vp_in (gI X 40 0) 60 ∧ Ev E m_la_addBytes 4 [(0, .ref 40), (1, .int x1), (2, .int x2), (3, .int (x3 + (-1)))] [] (gp_sI (gp_sI X 40 0 ((gI X 40 0) + 1)) 41 (Int32.toNatClampNeg (gI X 40 0)) ((x1 >>> ((8 * x3) &&& 31)) &&& 255)) (0, 0) Q)))) : Ev E m_la_addBytes 4 [(0, .ref 40), (1, .int x1), (2, .int x2), (3, .int x3)] [] X (0, 0) Q := by
  refine ev_iload_n (x := x3) (pc := 4) d_la_addBytes_4 rfl ?_
  refine ev_if_lt (pc := 5) (tgt := 40) d_la_addBytes_5 (by decide) (fun c_1 => ?_) (fun c_1 => ?_)
  · have h_2 := hh.1 c_1
    refine ev_aload_n (x := 40) (pc := 40) d_la_addBytes_40 rfl ?_
    refine ev_getJ (v := (gI X 40 0)) (pc := 41) d_la_addBytes_41 f_la_34 (ly_at hX 40 rfl) gg_4 rfl rfl ?_
    exact ev_iret (pc := 44) ⟨Nat.le_of_ble_eq_true rfl, Nat.le_of_ble_eq_true rfl⟩ d_la_addBytes_44 rfl (vp_nar_int _) h_2
  · have h_3 := hh.2 c_1
    refine ev_aload_n (x := 40) (pc := 8) d_la_addBytes_8 rfl ?_
    refine ev_getR (pc := 9) d_la_addBytes_9 f_la_9 (ly_at hX 40 rfl) gg_4 rfl (ly_rf hX 40 1 rfl) ?_
    refine ev_aload_n (x := 40) (pc := 12) d_la_addBytes_12 rfl ?_
    refine ev_dup (pc := 13) d_la_addBytes_13 rfl ?_
    refine ev_getJ (v := (gI X 40 0)) (pc := 14) d_la_addBytes_14 f_la_34 (ly_at hX 40 rfl) gg_4 rfl rfl ?_
    refine ev_dup_x1 (pc := 17) d_la_addBytes_17 rfl rfl ?_
    refine ev_iconst (v := 1) (pc := 18) d_la_addBytes_18 kc_i_1 ?_
    refine ev_iadd (pc := 19) d_la_addBytes_19 ?_
    refine ev_putI (pc := 20) d_la_addBytes_20 f_la_34 (ly_at hX 40 rfl) gg_4 rfl (Or.inl rfl) (vp_nar_int _) rfl ?_
    refine ev_iload_n (x := x1) (pc := 23) d_la_addBytes_23 rfl ?_
    refine ev_bipush (v := 8) (pc := 24) d_la_addBytes_24 kc_b_8 ?_
    refine ev_iload_n (x := x3) (pc := 26) d_la_addBytes_26 rfl ?_
    refine ev_imul (pc := 27) d_la_addBytes_27 ?_
    refine ev_ishr (pc := 28) d_la_addBytes_28 ?_
    refine ev_sipush (v := 255) (pc := 29) d_la_addBytes_29 kc_s_255 ?_
    refine ev_iand (pc := 32) d_la_addBytes_32 ?_
    refine ev_iast (pc := 33) d_la_addBytes_33 (ly_at (ly_sI hX) 41 rfl) h_3.1 ?_
    refine ev_iinc (v := (x3 + (-1))) (L2 := [(0, .ref 40), (1, .int x1), (2, .int x2), (3, .int (x3 + (-1)))]) (pc := 34) d_la_addBytes_34 rfl (by rw [kc_i_m1]) rfl (Nat.le_of_ble_eq_true rfl) rfl ?_
    refine ev_goto (pc := 37) (tgt := 4) d_la_addBytes_37 (by decide) ?_
    exact h_3.2
theorem b_la_readTape_0 {E : gp_E} {S : gp_S} {X : gp_H} {Q : Option Value → gp_H → Prop}  (hX : Lay S X)  (hh : (∃ Qz_1, Ev E m_la_match 0 [(0, .ref 40), (1, .float 0)] [] X (0, 0) Qz_1 ∧ ∀ r X_4, Qz_1 r X_4 → ∃ v_9 : Int32, r = some (.int v_9) ∧ Lay S X_4 ∧ ((¬ v_9 = (-1) → (∃ Qz_13, Ev E m_la_match 0 [(0, .ref 40), (1, .float 2)] [] X_4 (0, 0) Qz_13 ∧ ∀ r X_16, Qz_13 r X_16 → ∃ v_21 : Int32, r = some (.int v_21) ∧ Lay S X_16 ∧ ((¬ v_21 = (-1) → Q (some (.int ((-10) - (if v_9 < v_21 then v_21 else v_9)))) (gp_sI X_16 40 0 0)) ∧ (v_21 = (-1) → (vp_in 1 3 ∧ (vp_in 2 3 ∧ (vp_in 0 3 ∧ (∃ Qz_25, Ev E m_la_addLaw 0 [(0, .ref 40), (1, .int 1), (2, .int (gI X_16 47 (Int32.toNatClampNeg 1))), (3, .int (gI X_16 47 (Int32.toNatClampNeg 2))), (4, .int 0), (5, .int (gI X_16 47 (Int32.toNatClampNeg 0)))] [] X_16 (0, 0) Qz_25 ∧ ∀ r X_28, Qz_25 r X_28 → ∃ v_33 : Int32, r = some (.int v_33) ∧ Lay S X_28 ∧ Q (some (.int v_33)) X_28)))))))) ∧ (v_9 = (-1) → (vp_in 0 3 ∧ (vp_in 1 3 ∧ (vp_in 2 3 ∧ (∃ Qz_34, Ev E m_la_addLaw 0 [(0, .ref 40), (1, .int 0), (2, .int (gI X_4 47 (Int32.toNatClampNeg 0))), (3, .int (gI X_4 47 (Int32.toNatClampNeg 1))), (4, .int (gI X_4 47 (Int32.toNatClampNeg 2))), (5, .int 0)] [] X_4 (0, 0) Qz_34 ∧ ∀ r X_37, Qz_34 r X_37 → ∃ v_42 : Int32, r = some (.int v_42) ∧ Lay S X_37 ∧ Q (some (.int v_42)) X_37)))))))) : Ev E m_la_readTape 0 [(0, .ref 40)] [] X (0, 0) Q := by
  refine ev_aload_n (x := 40) (pc := 0) d_la_readTape_0 rfl ?_
  refine ev_ldcS0 (pc := 1) d_la_readTape_1 ?_
  obtain ⟨Qz_1, hc_2, hk_3⟩ := hh
  refine ev_callV (z := m_la_match) (as := [.float 0]) (rest := []) (pc := 3) d_la_readTape_3 (ly_at hX 40 rfl) lt13_4 rfl l_la_40 i_la_match v_la_match o_la_match rfl rfl (Nat.le_of_ble_eq_true rfl) rfl (Nat.le_of_ble_eq_true rfl) ⟨Nat.le_of_ble_eq_true rfl, Nat.le_of_ble_eq_true rfl⟩ hc_2 (fun r_5 X_4 hq_6 => ?_)
  obtain ⟨v_9, rfl, hX_8, h_7⟩ := hk_3 _ _ hq_6
  show Ev E m_la_readTape 6 [(0, .ref 40)] [.int v_9] X_4 (0, 0) Q
  refine ev_istore_n (L2 := [(0, .ref 40), (1, .int v_9)]) (pc := 6) d_la_readTape_6 rfl (Nat.le_of_ble_eq_true rfl) rfl ?_
  refine ev_iload_n (x := v_9) (pc := 7) d_la_readTape_7 rfl ?_
  refine ev_iconst (v := (-1)) (pc := 8) d_la_readTape_8 kc_i_m1 ?_
  refine ev_icmp_ne (pc := 9) (tgt := 37) d_la_readTape_9 (by decide) (fun c_10 => ?_) (fun c_10 => ?_)
  · have h_11 := h_7.1 c_10
    refine ev_aload_n (x := 40) (pc := 37) d_la_readTape_37 rfl ?_
    refine ev_ldcS2 (pc := 38) d_la_readTape_38 ?_
    obtain ⟨Qz_13, hc_14, hk_15⟩ := h_11
    refine ev_callV (z := m_la_match) (as := [.float 2]) (rest := []) (pc := 40) d_la_readTape_40 (ly_at hX_8 40 rfl) lt13_4 rfl l_la_40 i_la_match v_la_match o_la_match rfl rfl (Nat.le_of_ble_eq_true rfl) rfl (Nat.le_of_ble_eq_true rfl) ⟨Nat.le_of_ble_eq_true rfl, Nat.le_of_ble_eq_true rfl⟩ hc_14 (fun r_17 X_16 hq_18 => ?_)
    obtain ⟨v_21, rfl, hX_20, h_19⟩ := hk_15 _ _ hq_18
    show Ev E m_la_readTape 43 [(0, .ref 40), (1, .int v_9)] [.int v_21] X_16 (0, 0) Q
    refine ev_istore_n (L2 := [(0, .ref 40), (1, .int v_9), (2, .int v_21)]) (pc := 43) d_la_readTape_43 rfl (Nat.le_of_ble_eq_true rfl) rfl ?_
    refine ev_iload_n (x := v_21) (pc := 44) d_la_readTape_44 rfl ?_
    refine ev_iconst (v := (-1)) (pc := 45) d_la_readTape_45 kc_i_m1 ?_
    refine ev_icmp_ne (pc := 46) (tgt := 74) d_la_readTape_46 (by decide) (fun c_22 => ?_) (fun c_22 => ?_)
    · have h_23 := h_19.1 c_22
      refine ev_aload_n (x := 40) (pc := 74) d_la_readTape_74 rfl ?_
      refine ev_iconst (v := 0) (pc := 75) d_la_readTape_75 kc_i_0 ?_
      refine ev_putI (pc := 76) d_la_readTape_76 f_la_34 (ly_at hX_20 40 rfl) gg_4 rfl (Or.inl rfl) (vp_nar_int _) rfl ?_
      refine ev_bipush (v := (-10)) (pc := 79) d_la_readTape_79 kc_b_m10 ?_
      refine ev_iload_n (x := v_9) (pc := 81) d_la_readTape_81 rfl ?_
      refine ev_iload_n (x := v_21) (pc := 82) d_la_readTape_82 rfl ?_
      refine ev_mmax (pc := 83) d_la_readTape_83 l_la_50 ⟨Nat.le_of_ble_eq_true rfl, Nat.le_of_ble_eq_true rfl⟩ ⟨Nat.le_of_ble_eq_true rfl, Nat.le_of_ble_eq_true rfl⟩ ?_
      refine ev_isub (pc := 86) d_la_readTape_86 ?_
      exact ev_iret (pc := 87) ⟨Nat.le_of_ble_eq_true rfl, Nat.le_of_ble_eq_true rfl⟩ d_la_readTape_87 rfl (vp_nar_int _) h_23
    · have h_24 := h_19.2 c_22
      refine ev_aload_n (x := 40) (pc := 49) d_la_readTape_49 rfl ?_
      refine ev_iconst (v := 1) (pc := 50) d_la_readTape_50 kc_i_1 ?_
      refine ev_aload_n (x := 40) (pc := 51) d_la_readTape_51 rfl ?_
      refine ev_getR (pc := 52) d_la_readTape_52 f_la_31 (ly_at hX_20 40 rfl) gg_4 rfl (ly_rf hX_20 40 8 rfl) ?_
      refine ev_iconst (v := 1) (pc := 55) d_la_readTape_55 kc_i_1 ?_
      refine ev_ialdJ (v := (gI X_16 47 (Int32.toNatClampNeg 1))) (pc := 56) d_la_readTape_56 (ly_at hX_20 47 rfl) h_24.1 rfl ?_
      refine ev_aload_n (x := 40) (pc := 57) d_la_readTape_57 rfl ?_
      refine ev_getR (pc := 58) d_la_readTape_58 f_la_31 (ly_at hX_20 40 rfl) gg_4 rfl (ly_rf hX_20 40 8 rfl) ?_
      refine ev_iconst (v := 2) (pc := 61) d_la_readTape_61 kc_i_2 ?_
      refine ev_ialdJ (v := (gI X_16 47 (Int32.toNatClampNeg 2))) (pc := 62) d_la_readTape_62 (ly_at hX_20 47 rfl) h_24.2.1 rfl ?_
      refine ev_iconst (v := 0) (pc := 63) d_la_readTape_63 kc_i_0 ?_
      refine ev_aload_n (x := 40) (pc := 64) d_la_readTape_64 rfl ?_
      refine ev_getR (pc := 65) d_la_readTape_65 f_la_31 (ly_at hX_20 40 rfl) gg_4 rfl (ly_rf hX_20 40 8 rfl) ?_
      refine ev_iconst (v := 0) (pc := 68) d_la_readTape_68 kc_i_0 ?_
      refine ev_ialdJ (v := (gI X_16 47 (Int32.toNatClampNeg 0))) (pc := 69) d_la_readTape_69 (ly_at hX_20 47 rfl) h_24.2.2.1 rfl ?_
      obtain ⟨Qz_25, hc_26, hk_27⟩ := h_24.2.2.2
      refine ev_callV (z := m_la_addLaw) (as := [.int 1, .int (gI X_16 47 (Int32.toNatClampNeg 1)), .int (gI X_16 47 (Int32.toNatClampNeg 2)), .int 0, .int (gI X_16 47 (Int32.toNatClampNeg 0))]) (rest := []) (pc := 70) d_la_readTape_70 (ly_at hX_20 40 rfl) lt13_4 rfl l_la_44 i_la_addLaw v_la_addLaw o_la_addLaw rfl rfl (Nat.le_of_ble_eq_true rfl) rfl (Nat.le_of_ble_eq_true rfl) ⟨Nat.le_of_ble_eq_true rfl, Nat.le_of_ble_eq_true rfl⟩ hc_26 (fun r_29 X_28 hq_30 => ?_)
      obtain ⟨v_33, rfl, hX_32, h_31⟩ := hk_27 _ _ hq_30
      show Ev E m_la_readTape 73 [(0, .ref 40), (1, .int v_9), (2, .int v_21)] [.int v_33] X_28 (0, 0) Q
      exact ev_iret (pc := 73) ⟨Nat.le_of_ble_eq_true rfl, Nat.le_of_ble_eq_true rfl⟩ d_la_readTape_73 rfl (vp_nar_int _) h_31
  · have h_12 := h_7.2 c_10
    refine ev_aload_n (x := 40) (pc := 12) d_la_readTape_12 rfl ?_
    refine ev_iconst (v := 0) (pc := 13) d_la_readTape_13 kc_i_0 ?_
    refine ev_aload_n (x := 40) (pc := 14) d_la_readTape_14 rfl ?_
    refine ev_getR (pc := 15) d_la_readTape_15 f_la_31 (ly_at hX_8 40 rfl) gg_4 rfl (ly_rf hX_8 40 8 rfl) ?_
    refine ev_iconst (v := 0) (pc := 18) d_la_readTape_18 kc_i_0 ?_
    refine ev_ialdJ (v := (gI X_4 47 (Int32.toNatClampNeg 0))) (pc := 19) d_la_readTape_19 (ly_at hX_8 47 rfl) h_12.1 rfl ?_
    refine ev_aload_n (x := 40) (pc := 20) d_la_readTape_20 rfl ?_
    refine ev_getR (pc := 21) d_la_readTape_21 f_la_31 (ly_at hX_8 40 rfl) gg_4 rfl (ly_rf hX_8 40 8 rfl) ?_
    refine ev_iconst (v := 1) (pc := 24) d_la_readTape_24 kc_i_1 ?_
    refine ev_ialdJ (v := (gI X_4 47 (Int32.toNatClampNeg 1))) (pc := 25) d_la_readTape_25 (ly_at hX_8 47 rfl) h_12.2.1 rfl ?_
    refine ev_aload_n (x := 40) (pc := 26) d_la_readTape_26 rfl ?_
    refine ev_getR (pc := 27) d_la_readTape_27 f_la_31 (ly_at hX_8 40 rfl) gg_4 rfl (ly_rf hX_8 40 8 rfl) ?_
    refine ev_iconst (v := 2) (pc := 30) d_la_readTape_30 kc_i_2 ?_
    refine ev_ialdJ (v := (gI X_4 47 (Int32.toNatClampNeg 2))) (pc := 31) d_la_readTape_31 (ly_at hX_8 47 rfl) h_12.2.2.1 rfl ?_
    refine ev_iconst (v := 0) (pc := 32) d_la_readTape_32 kc_i_0 ?_
    obtain ⟨Qz_34, hc_35, hk_36⟩ := h_12.2.2.2
    refine ev_callV (z := m_la_addLaw) (as := [.int 0, .int (gI X_4 47 (Int32.toNatClampNeg 0)), .int (gI X_4 47 (Int32.toNatClampNeg 1)), .int (gI X_4 47 (Int32.toNatClampNeg 2)), .int 0]) (rest := []) (pc := 33) d_la_readTape_33 (ly_at hX_8 40 rfl) lt13_4 rfl l_la_44 i_la_addLaw v_la_addLaw o_la_addLaw rfl rfl (Nat.le_of_ble_eq_true rfl) rfl (Nat.le_of_ble_eq_true rfl) ⟨Nat.le_of_ble_eq_true rfl, Nat.le_of_ble_eq_true rfl⟩ hc_35 (fun r_38 X_37 hq_39 => ?_)
    obtain ⟨v_42, rfl, hX_41, h_40⟩ := hk_36 _ _ hq_39
    show Ev E m_la_readTape 36 [(0, .ref 40), (1, .int v_9)] [.int v_42] X_37 (0, 0) Q
    exact ev_iret (pc := 36) ⟨Nat.le_of_ble_eq_true rfl, Nat.le_of_ble_eq_true rfl⟩ d_la_readTape_36 rfl (vp_nar_int _) h_40
theorem b_la_isDigit_0 {E : gp_E} {S : gp_S} {X : gp_H} {Q : Option Value → gp_H → Prop} {x0 : Int32} (hX : Lay S X)  (hh : ((x0 < 48 → Q (some (.int 0)) X) ∧ (¬ x0 < 48 → ((57 < x0 → Q (some (.int 0)) X) ∧ (¬ 57 < x0 → Q (some (.int 1)) X))))) : Ev E m_la_isDigit 0 [(0, .int x0)] [] X (0, 0) Q := by
  refine ev_iload_n (x := x0) (pc := 0) d_la_isDigit_0 rfl ?_
  refine ev_bipush (v := 48) (pc := 1) d_la_isDigit_1 kc_b_48 ?_
  refine ev_icmp_lt (pc := 3) (tgt := 16) d_la_isDigit_3 (by decide) (fun c_1 => ?_) (fun c_1 => ?_)
  · have h_2 := hh.1 c_1
    refine ev_iconst (v := 0) (pc := 16) d_la_isDigit_16 kc_i_0 ?_
    exact ev_iret (pc := 17) ⟨Nat.le_of_ble_eq_true rfl, Nat.le_of_ble_eq_true rfl⟩ d_la_isDigit_17 rfl nb_0 h_2
  · have h_3 := hh.2 c_1
    refine ev_iload_n (x := x0) (pc := 6) d_la_isDigit_6 rfl ?_
    refine ev_bipush (v := 57) (pc := 7) d_la_isDigit_7 kc_b_57 ?_
    refine ev_icmp_gt (pc := 9) (tgt := 16) d_la_isDigit_9 (by decide) (fun c_4 => ?_) (fun c_4 => ?_)
    · have h_5 := h_3.1 c_4
      refine ev_iconst (v := 0) (pc := 16) d_la_isDigit_16 kc_i_0 ?_
      exact ev_iret (pc := 17) ⟨Nat.le_of_ble_eq_true rfl, Nat.le_of_ble_eq_true rfl⟩ d_la_isDigit_17 rfl nb_0 h_5
    · have h_6 := h_3.2 c_4
      refine ev_iconst (v := 1) (pc := 12) d_la_isDigit_12 kc_i_1 ?_
      refine ev_goto (pc := 13) (tgt := 17) d_la_isDigit_13 (by decide) ?_
      exact ev_iret (pc := 17) ⟨Nat.le_of_ble_eq_true rfl, Nat.le_of_ble_eq_true rfl⟩ d_la_isDigit_17 rfl nb_1 h_6
theorem b_la_endOfDigits_0 {E : gp_E} {S : gp_S} {X : gp_H} {Q : Option Value → gp_H → Prop} {x1 : Int32} {x2 : Int32} (hX : Lay S X)  (hh : Ev E m_la_endOfDigits 2 [(0, .ref 40), (1, .int x1), (2, .int x2), (3, .int x1)] [] X (0, 0) Q) : Ev E m_la_endOfDigits 0 [(0, .ref 40), (1, .int x1), (2, .int x2)] [] X (0, 0) Q := by
  refine ev_iload_n (x := x1) (pc := 0) d_la_endOfDigits_0 rfl ?_
  refine ev_istore_n (L2 := [(0, .ref 40), (1, .int x1), (2, .int x2), (3, .int x1)]) (pc := 1) d_la_endOfDigits_1 rfl (Nat.le_of_ble_eq_true rfl) rfl ?_
  exact hh
theorem b_la_endOfDigits_2 {E : gp_E} {S : gp_S} {X : gp_H} {Q : Option Value → gp_H → Prop} {x1 : Int32} {x2 : Int32} {x3 : Int32} (hX : Lay S X)  (hh : (((gI X 40 0) ≤ x3 → Q (some (.int x3)) X) ∧ (¬ (gI X 40 0) ≤ x3 → ((x2 ≤ (x3 - x1) → Q (some (.int x3)) X) ∧ (¬ x2 ≤ (x3 - x1) → (vp_in x3 60 ∧ (∃ Qz_7, Ev E m_la_isDigit 0 [(0, .int (gI X 41 (Int32.toNatClampNeg x3)))] [] X (0, 0) Qz_7 ∧ ∀ r X_10, Qz_7 r X_10 → ∃ v_15 : Int32, r = some (.int v_15) ∧ Lay S X_10 ∧ ((v_15 = 0 → Q (some (.int x3)) X_10) ∧ (¬ v_15 = 0 → Ev E m_la_endOfDigits 2 [(0, .ref 40), (1, .int x1), (2, .int x2), (3, .int (x3 + 1))] [] X_10 (0, 0) Q))))))))) : Ev E m_la_endOfDigits 2 [(0, .ref 40), (1, .int x1), (2, .int x2), (3, .int x3)] [] X (0, 0) Q := by
  refine ev_iload_n (x := x3) (pc := 2) d_la_endOfDigits_2 rfl ?_
  refine ev_aload_n (x := 40) (pc := 3) d_la_endOfDigits_3 rfl ?_
  refine ev_getJ (v := (gI X 40 0)) (pc := 4) d_la_endOfDigits_4 f_la_34 (ly_at hX 40 rfl) gg_4 rfl rfl ?_
  refine ev_icmp_ge (pc := 7) (tgt := 35) d_la_endOfDigits_7 (by decide) (fun c_1 => ?_) (fun c_1 => ?_)
  · have h_2 := hh.1 c_1
    refine ev_iload_n (x := x3) (pc := 35) d_la_endOfDigits_35 rfl ?_
    exact ev_iret (pc := 36) ⟨Nat.le_of_ble_eq_true rfl, Nat.le_of_ble_eq_true rfl⟩ d_la_endOfDigits_36 rfl (vp_nar_int _) h_2
  · have h_3 := hh.2 c_1
    refine ev_iload_n (x := x3) (pc := 10) d_la_endOfDigits_10 rfl ?_
    refine ev_iload_n (x := x1) (pc := 11) d_la_endOfDigits_11 rfl ?_
    refine ev_isub (pc := 12) d_la_endOfDigits_12 ?_
    refine ev_iload_n (x := x2) (pc := 13) d_la_endOfDigits_13 rfl ?_
    refine ev_icmp_ge (pc := 14) (tgt := 35) d_la_endOfDigits_14 (by decide) (fun c_4 => ?_) (fun c_4 => ?_)
    · have h_5 := h_3.1 c_4
      refine ev_iload_n (x := x3) (pc := 35) d_la_endOfDigits_35 rfl ?_
      exact ev_iret (pc := 36) ⟨Nat.le_of_ble_eq_true rfl, Nat.le_of_ble_eq_true rfl⟩ d_la_endOfDigits_36 rfl (vp_nar_int _) h_5
    · have h_6 := h_3.2 c_4
      refine ev_aload_n (x := 40) (pc := 17) d_la_endOfDigits_17 rfl ?_
      refine ev_getR (pc := 18) d_la_endOfDigits_18 f_la_9 (ly_at hX 40 rfl) gg_4 rfl (ly_rf hX 40 1 rfl) ?_
      refine ev_iload_n (x := x3) (pc := 21) d_la_endOfDigits_21 rfl ?_
      refine ev_ialdJ (v := (gI X 41 (Int32.toNatClampNeg x3))) (pc := 22) d_la_endOfDigits_22 (ly_at hX 41 rfl) h_6.1 rfl ?_
      obtain ⟨Qz_7, hc_8, hk_9⟩ := h_6.2
      refine ev_callS (z := m_la_isDigit) (as := [.int (gI X 41 (Int32.toNatClampNeg x3))]) (rest := []) (pc := 23) d_la_endOfDigits_23 l_la_69 i_la_isDigit o_la_isDigit rfl rfl (Nat.le_of_ble_eq_true rfl) rfl (Nat.le_of_ble_eq_true rfl) ⟨Nat.le_of_ble_eq_true rfl, Nat.le_of_ble_eq_true rfl⟩ hc_8 (fun r_11 X_10 hq_12 => ?_)
      obtain ⟨v_15, rfl, hX_14, h_13⟩ := hk_9 _ _ hq_12
      show Ev E m_la_endOfDigits 26 [(0, .ref 40), (1, .int x1), (2, .int x2), (3, .int x3)] [.int v_15] X_10 (0, 0) Q
      refine ev_if_eq (pc := 26) (tgt := 35) d_la_endOfDigits_26 (by decide) (fun c_16 => ?_) (fun c_16 => ?_)
      · have h_17 := h_13.1 c_16
        refine ev_iload_n (x := x3) (pc := 35) d_la_endOfDigits_35 rfl ?_
        exact ev_iret (pc := 36) ⟨Nat.le_of_ble_eq_true rfl, Nat.le_of_ble_eq_true rfl⟩ d_la_endOfDigits_36 rfl (vp_nar_int _) h_17
      · have h_18 := h_13.2 c_16
        refine ev_iinc (v := (x3 + 1)) (L2 := [(0, .ref 40), (1, .int x1), (2, .int x2), (3, .int (x3 + 1))]) (pc := 29) d_la_endOfDigits_29 rfl (by rw [kc_i_1]) rfl (Nat.le_of_ble_eq_true rfl) rfl ?_
        refine ev_goto (pc := 32) (tgt := 2) d_la_endOfDigits_32 (by decide) ?_
        exact h_18
theorem b_la_valueOf_0 {E : gp_E} {S : gp_S} {X : gp_H} {Q : Option Value → gp_H → Prop} {x1 : Int32} {x2 : Int32} (hX : Lay S X)  (hh : Ev E m_la_valueOf 5 [(0, .ref 40), (1, .int x1), (2, .int x2), (3, .int 0), (4, .int x1)] [] X (0, 0) Q) : Ev E m_la_valueOf 0 [(0, .ref 40), (1, .int x1), (2, .int x2)] [] X (0, 0) Q := by
  refine ev_iconst (v := 0) (pc := 0) d_la_valueOf_0 kc_i_0 ?_
  refine ev_istore_n (L2 := [(0, .ref 40), (1, .int x1), (2, .int x2), (3, .int 0)]) (pc := 1) d_la_valueOf_1 rfl (Nat.le_of_ble_eq_true rfl) rfl ?_
  refine ev_iload_n (x := x1) (pc := 2) d_la_valueOf_2 rfl ?_
  refine ev_istore (L2 := [(0, .ref 40), (1, .int x1), (2, .int x2), (3, .int 0), (4, .int x1)]) (pc := 3) d_la_valueOf_3 rfl (Nat.le_of_ble_eq_true rfl) rfl ?_
  exact hh
theorem b_la_valueOf_5 {E : gp_E} {S : gp_S} {X : gp_H} {Q : Option Value → gp_H → Prop} {x1 : Int32} {x2 : Int32} {x3 : Int32} {x4 : Int32} (hX : Lay S X)  (hh : ((x2 ≤ x4 → Q (some (.int x3)) X) ∧ (¬ x2 ≤ x4 → (vp_in x4 60 ∧ Ev E m_la_valueOf 5 [(0, .ref 40), (1, .int x1), (2, .int x2), (3, .int (((x3 * 10) + (gI X 41 (Int32.toNatClampNeg x4))) - 48)), (4, .int (x4 + 1))] [] X (0, 0) Q)))) : Ev E m_la_valueOf 5 [(0, .ref 40), (1, .int x1), (2, .int x2), (3, .int x3), (4, .int x4)] [] X (0, 0) Q := by
  refine ev_iload (x := x4) (pc := 5) d_la_valueOf_5 rfl ?_
  refine ev_iload_n (x := x2) (pc := 7) d_la_valueOf_7 rfl ?_
  refine ev_icmp_ge (pc := 8) (tgt := 33) d_la_valueOf_8 (by decide) (fun c_1 => ?_) (fun c_1 => ?_)
  · have h_2 := hh.1 c_1
    refine ev_iload_n (x := x3) (pc := 33) d_la_valueOf_33 rfl ?_
    exact ev_iret (pc := 34) ⟨Nat.le_of_ble_eq_true rfl, Nat.le_of_ble_eq_true rfl⟩ d_la_valueOf_34 rfl (vp_nar_int _) h_2
  · have h_3 := hh.2 c_1
    refine ev_iload_n (x := x3) (pc := 11) d_la_valueOf_11 rfl ?_
    refine ev_bipush (v := 10) (pc := 12) d_la_valueOf_12 kc_b_10 ?_
    refine ev_imul (pc := 14) d_la_valueOf_14 ?_
    refine ev_aload_n (x := 40) (pc := 15) d_la_valueOf_15 rfl ?_
    refine ev_getR (pc := 16) d_la_valueOf_16 f_la_9 (ly_at hX 40 rfl) gg_4 rfl (ly_rf hX 40 1 rfl) ?_
    refine ev_iload (x := x4) (pc := 19) d_la_valueOf_19 rfl ?_
    refine ev_ialdJ (v := (gI X 41 (Int32.toNatClampNeg x4))) (pc := 21) d_la_valueOf_21 (ly_at hX 41 rfl) h_3.1 rfl ?_
    refine ev_iadd (pc := 22) d_la_valueOf_22 ?_
    refine ev_bipush (v := 48) (pc := 23) d_la_valueOf_23 kc_b_48 ?_
    refine ev_isub (pc := 25) d_la_valueOf_25 ?_
    refine ev_istore_n (L2 := [(0, .ref 40), (1, .int x1), (2, .int x2), (3, .int (((x3 * 10) + (gI X 41 (Int32.toNatClampNeg x4))) - 48)), (4, .int x4)]) (pc := 26) d_la_valueOf_26 rfl (Nat.le_of_ble_eq_true rfl) rfl ?_
    refine ev_iinc (v := (x4 + 1)) (L2 := [(0, .ref 40), (1, .int x1), (2, .int x2), (3, .int (((x3 * 10) + (gI X 41 (Int32.toNatClampNeg x4))) - 48)), (4, .int (x4 + 1))]) (pc := 27) d_la_valueOf_27 rfl (by rw [kc_i_1]) rfl (Nat.le_of_ble_eq_true rfl) rfl ?_
    refine ev_goto (pc := 30) (tgt := 5) d_la_valueOf_30 (by decide) ?_
    exact h_3.2
theorem b_la_addLaw_0 {E : gp_E} {S : gp_S} {X : gp_H} {Q : Option Value → gp_H → Prop} {x1 : Int32} {x2 : Int32} {x3 : Int32} {x4 : Int32} {x5 : Int32} (hX : Lay S X)  (hh : (vp_in (gI X 40 2) 10 ∧ (narrow .boolean (.int x1) = .int x1 ∧ Q (some (.int (gI X 40 2))) (gp_sI (gp_sI (gp_sI (gp_sI (gp_sI (gp_sI (gp_sI X 42 (Int32.toNatClampNeg (gI X 40 2)) x1) 43 (Int32.toNatClampNeg (gI X 40 2)) x2) 44 (Int32.toNatClampNeg (gI X 40 2)) x3) 45 (Int32.toNatClampNeg (gI X 40 2)) x4) 46 (Int32.toNatClampNeg (gI X 40 2)) x5) 40 0 0) 40 2 ((gI X 40 2) + 1))))) : Ev E m_la_addLaw 0 [(0, .ref 40), (1, .int x1), (2, .int x2), (3, .int x3), (4, .int x4), (5, .int x5)] [] X (0, 0) Q := by
  refine ev_aload_n (x := 40) (pc := 0) d_la_addLaw_0 rfl ?_
  refine ev_getR (pc := 1) d_la_addLaw_1 f_la_15 (ly_at hX 40 rfl) gg_4 rfl (ly_rf hX 40 3 rfl) ?_
  refine ev_aload_n (x := 40) (pc := 4) d_la_addLaw_4 rfl ?_
  refine ev_getJ (v := (gI X 40 2)) (pc := 5) d_la_addLaw_5 f_la_56 (ly_at hX 40 rfl) gg_4 rfl rfl ?_
  refine ev_iload_n (x := x1) (pc := 8) d_la_addLaw_8 rfl ?_
  refine ev_zast (pc := 9) d_la_addLaw_9 (ly_at hX 42 rfl) hh.1 hh.2.1 ?_
  refine ev_aload_n (x := 40) (pc := 10) d_la_addLaw_10 rfl ?_
  refine ev_getR (pc := 11) d_la_addLaw_11 f_la_19 (ly_at (ly_sI hX) 40 rfl) gg_4 rfl (ly_rf (ly_sI hX) 40 4 rfl) ?_
  refine ev_aload_n (x := 40) (pc := 14) d_la_addLaw_14 rfl ?_
  refine ev_getJ (v := (gI X 40 2)) (pc := 15) d_la_addLaw_15 f_la_56 (ly_at (ly_sI hX) 40 rfl) gg_4 rfl rfl ?_
  refine ev_iload_n (x := x2) (pc := 18) d_la_addLaw_18 rfl ?_
  refine ev_iast (pc := 19) d_la_addLaw_19 (ly_at (ly_sI hX) 43 rfl) hh.1 ?_
  refine ev_aload_n (x := 40) (pc := 20) d_la_addLaw_20 rfl ?_
  refine ev_getR (pc := 21) d_la_addLaw_21 f_la_22 (ly_at (ly_sI (ly_sI hX)) 40 rfl) gg_4 rfl (ly_rf (ly_sI (ly_sI hX)) 40 5 rfl) ?_
  refine ev_aload_n (x := 40) (pc := 24) d_la_addLaw_24 rfl ?_
  refine ev_getJ (v := (gI X 40 2)) (pc := 25) d_la_addLaw_25 f_la_56 (ly_at (ly_sI (ly_sI hX)) 40 rfl) gg_4 rfl rfl ?_
  refine ev_iload_n (x := x3) (pc := 28) d_la_addLaw_28 rfl ?_
  refine ev_iast (pc := 29) d_la_addLaw_29 (ly_at (ly_sI (ly_sI hX)) 44 rfl) hh.1 ?_
  refine ev_aload_n (x := 40) (pc := 30) d_la_addLaw_30 rfl ?_
  refine ev_getR (pc := 31) d_la_addLaw_31 f_la_25 (ly_at (ly_sI (ly_sI (ly_sI hX))) 40 rfl) gg_4 rfl (ly_rf (ly_sI (ly_sI (ly_sI hX))) 40 6 rfl) ?_
  refine ev_aload_n (x := 40) (pc := 34) d_la_addLaw_34 rfl ?_
  refine ev_getJ (v := (gI X 40 2)) (pc := 35) d_la_addLaw_35 f_la_56 (ly_at (ly_sI (ly_sI (ly_sI hX))) 40 rfl) gg_4 rfl rfl ?_
  refine ev_iload (x := x4) (pc := 38) d_la_addLaw_38 rfl ?_
  refine ev_iast (pc := 40) d_la_addLaw_40 (ly_at (ly_sI (ly_sI (ly_sI hX))) 45 rfl) hh.1 ?_
  refine ev_aload_n (x := 40) (pc := 41) d_la_addLaw_41 rfl ?_
  refine ev_getR (pc := 42) d_la_addLaw_42 f_la_28 (ly_at (ly_sI (ly_sI (ly_sI (ly_sI hX)))) 40 rfl) gg_4 rfl (ly_rf (ly_sI (ly_sI (ly_sI (ly_sI hX)))) 40 7 rfl) ?_
  refine ev_aload_n (x := 40) (pc := 45) d_la_addLaw_45 rfl ?_
  refine ev_getJ (v := (gI X 40 2)) (pc := 46) d_la_addLaw_46 f_la_56 (ly_at (ly_sI (ly_sI (ly_sI (ly_sI hX)))) 40 rfl) gg_4 rfl rfl ?_
  refine ev_iload (x := x5) (pc := 49) d_la_addLaw_49 rfl ?_
  refine ev_iast (pc := 51) d_la_addLaw_51 (ly_at (ly_sI (ly_sI (ly_sI (ly_sI hX)))) 46 rfl) hh.1 ?_
  refine ev_aload_n (x := 40) (pc := 52) d_la_addLaw_52 rfl ?_
  refine ev_iconst (v := 0) (pc := 53) d_la_addLaw_53 kc_i_0 ?_
  refine ev_putI (pc := 54) d_la_addLaw_54 f_la_34 (ly_at (ly_sI (ly_sI (ly_sI (ly_sI (ly_sI hX))))) 40 rfl) gg_4 rfl (Or.inl rfl) (vp_nar_int _) rfl ?_
  refine ev_aload_n (x := 40) (pc := 57) d_la_addLaw_57 rfl ?_
  refine ev_dup (pc := 58) d_la_addLaw_58 rfl ?_
  refine ev_getJ (v := (gI X 40 2)) (pc := 59) d_la_addLaw_59 f_la_56 (ly_at (ly_sI (ly_sI (ly_sI (ly_sI (ly_sI (ly_sI hX)))))) 40 rfl) gg_4 rfl rfl ?_
  refine ev_dup_x1 (pc := 62) d_la_addLaw_62 rfl rfl ?_
  refine ev_iconst (v := 1) (pc := 63) d_la_addLaw_63 kc_i_1 ?_
  refine ev_iadd (pc := 64) d_la_addLaw_64 ?_
  refine ev_putI (pc := 65) d_la_addLaw_65 f_la_56 (ly_at (ly_sI (ly_sI (ly_sI (ly_sI (ly_sI (ly_sI hX)))))) 40 rfl) gg_4 rfl (Or.inl rfl) (vp_nar_int _) rfl ?_
  exact ev_iret (pc := 68) ⟨Nat.le_of_ble_eq_true rfl, Nat.le_of_ble_eq_true rfl⟩ d_la_addLaw_68 rfl (vp_nar_int _) hh.2.2
theorem b_la_payFor_0 {E : gp_E} {S : gp_S} {X : gp_H} {Q : Option Value → gp_H → Prop} {x1 : Int32} {x2 : Int32} (hX : Lay S X)  (hh : Ev E m_la_payFor 7 [(0, .ref 40), (1, .int x1), (2, .int x2), (3, .int ((gI X 40 2) - 1))] [] X (0, 0) Q) : Ev E m_la_payFor 0 [(0, .ref 40), (1, .int x1), (2, .int x2)] [] X (0, 0) Q := by
  refine ev_aload_n (x := 40) (pc := 0) d_la_payFor_0 rfl ?_
  refine ev_getJ (v := (gI X 40 2)) (pc := 1) d_la_payFor_1 f_la_56 (ly_at hX 40 rfl) gg_4 rfl rfl ?_
  refine ev_iconst (v := 1) (pc := 4) d_la_payFor_4 kc_i_1 ?_
  refine ev_isub (pc := 5) d_la_payFor_5 ?_
  refine ev_istore_n (L2 := [(0, .ref 40), (1, .int x1), (2, .int x2), (3, .int ((gI X 40 2) - 1))]) (pc := 6) d_la_payFor_6 rfl (Nat.le_of_ble_eq_true rfl) rfl ?_
  exact hh
theorem b_la_payFor_7 {E : gp_E} {S : gp_S} {X : gp_H} {Q : Option Value → gp_H → Prop} {x1 : Int32} {x2 : Int32} {x3 : Int32} (hX : Lay S X)  (hh : ((x3 < 0 → Q (some (.int 0)) X) ∧ (¬ x3 < 0 → (vp_in x3 10 ∧ (((gI X 42 (Int32.toNatClampNeg x3)) = 0 → Ev E m_la_payFor 7 [(0, .ref 40), (1, .int x1), (2, .int x2), (3, .int (x3 + (-1)))] [] X (0, 0) Q) ∧ (¬ (gI X 42 (Int32.toNatClampNeg x3)) = 0 → ((¬ (gI X 43 (Int32.toNatClampNeg x3)) = x1 → Ev E m_la_payFor 7 [(0, .ref 40), (1, .int x1), (2, .int x2), (3, .int (x3 + (-1)))] [] X (0, 0) Q) ∧ ((gI X 43 (Int32.toNatClampNeg x3)) = x1 → ((x2 < (gI X 44 (Int32.toNatClampNeg x3)) → Ev E m_la_payFor 7 [(0, .ref 40), (1, .int x1), (2, .int x2), (3, .int (x3 + (-1)))] [] X (0, 0) Q) ∧ (¬ x2 < (gI X 44 (Int32.toNatClampNeg x3)) → Q (some (.int (gI X 46 (Int32.toNatClampNeg x3)))) X)))))))))) : Ev E m_la_payFor 7 [(0, .ref 40), (1, .int x1), (2, .int x2), (3, .int x3)] [] X (0, 0) Q := by
  refine ev_iload_n (x := x3) (pc := 7) d_la_payFor_7 rfl ?_
  refine ev_if_lt (pc := 8) (tgt := 53) d_la_payFor_8 (by decide) (fun c_1 => ?_) (fun c_1 => ?_)
  · have h_2 := hh.1 c_1
    refine ev_iconst (v := 0) (pc := 53) d_la_payFor_53 kc_i_0 ?_
    exact ev_iret (pc := 54) ⟨Nat.le_of_ble_eq_true rfl, Nat.le_of_ble_eq_true rfl⟩ d_la_payFor_54 rfl (vp_nar_int _) h_2
  · have h_3 := hh.2 c_1
    refine ev_aload_n (x := 40) (pc := 11) d_la_payFor_11 rfl ?_
    refine ev_getR (pc := 12) d_la_payFor_12 f_la_15 (ly_at hX 40 rfl) gg_4 rfl (ly_rf hX 40 3 rfl) ?_
    refine ev_iload_n (x := x3) (pc := 15) d_la_payFor_15 rfl ?_
    refine ev_zaldJ (v := (gI X 42 (Int32.toNatClampNeg x3))) (pc := 16) d_la_payFor_16 (ly_at hX 42 rfl) h_3.1 rfl ?_
    refine ev_if_eq (pc := 17) (tgt := 47) d_la_payFor_17 (by decide) (fun c_4 => ?_) (fun c_4 => ?_)
    · have h_5 := h_3.2.1 c_4
      refine ev_iinc (v := (x3 + (-1))) (L2 := [(0, .ref 40), (1, .int x1), (2, .int x2), (3, .int (x3 + (-1)))]) (pc := 47) d_la_payFor_47 rfl (by rw [kc_i_m1]) rfl (Nat.le_of_ble_eq_true rfl) rfl ?_
      refine ev_goto (pc := 50) (tgt := 7) d_la_payFor_50 (by decide) ?_
      exact h_5
    · have h_6 := h_3.2.2 c_4
      refine ev_aload_n (x := 40) (pc := 20) d_la_payFor_20 rfl ?_
      refine ev_getR (pc := 21) d_la_payFor_21 f_la_19 (ly_at hX 40 rfl) gg_4 rfl (ly_rf hX 40 4 rfl) ?_
      refine ev_iload_n (x := x3) (pc := 24) d_la_payFor_24 rfl ?_
      refine ev_ialdJ (v := (gI X 43 (Int32.toNatClampNeg x3))) (pc := 25) d_la_payFor_25 (ly_at hX 43 rfl) h_3.1 rfl ?_
      refine ev_iload_n (x := x1) (pc := 26) d_la_payFor_26 rfl ?_
      refine ev_icmp_ne (pc := 27) (tgt := 47) d_la_payFor_27 (by decide) (fun c_7 => ?_) (fun c_7 => ?_)
      · have h_8 := h_6.1 c_7
        refine ev_iinc (v := (x3 + (-1))) (L2 := [(0, .ref 40), (1, .int x1), (2, .int x2), (3, .int (x3 + (-1)))]) (pc := 47) d_la_payFor_47 rfl (by rw [kc_i_m1]) rfl (Nat.le_of_ble_eq_true rfl) rfl ?_
        refine ev_goto (pc := 50) (tgt := 7) d_la_payFor_50 (by decide) ?_
        exact h_8
      · have h_9 := h_6.2 c_7
        refine ev_aload_n (x := 40) (pc := 30) d_la_payFor_30 rfl ?_
        refine ev_getR (pc := 31) d_la_payFor_31 f_la_22 (ly_at hX 40 rfl) gg_4 rfl (ly_rf hX 40 5 rfl) ?_
        refine ev_iload_n (x := x3) (pc := 34) d_la_payFor_34 rfl ?_
        refine ev_ialdJ (v := (gI X 44 (Int32.toNatClampNeg x3))) (pc := 35) d_la_payFor_35 (ly_at hX 44 rfl) h_3.1 rfl ?_
        refine ev_iload_n (x := x2) (pc := 36) d_la_payFor_36 rfl ?_
        refine ev_icmp_gt (pc := 37) (tgt := 47) d_la_payFor_37 (by decide) (fun c_10 => ?_) (fun c_10 => ?_)
        · have h_11 := h_9.1 c_10
          refine ev_iinc (v := (x3 + (-1))) (L2 := [(0, .ref 40), (1, .int x1), (2, .int x2), (3, .int (x3 + (-1)))]) (pc := 47) d_la_payFor_47 rfl (by rw [kc_i_m1]) rfl (Nat.le_of_ble_eq_true rfl) rfl ?_
          refine ev_goto (pc := 50) (tgt := 7) d_la_payFor_50 (by decide) ?_
          exact h_11
        · have h_12 := h_9.2 c_10
          refine ev_aload_n (x := 40) (pc := 40) d_la_payFor_40 rfl ?_
          refine ev_getR (pc := 41) d_la_payFor_41 f_la_28 (ly_at hX 40 rfl) gg_4 rfl (ly_rf hX 40 7 rfl) ?_
          refine ev_iload_n (x := x3) (pc := 44) d_la_payFor_44 rfl ?_
          refine ev_ialdJ (v := (gI X 46 (Int32.toNatClampNeg x3))) (pc := 45) d_la_payFor_45 (ly_at hX 46 rfl) h_3.1 rfl ?_
          exact ev_iret (pc := 46) ⟨Nat.le_of_ble_eq_true rfl, Nat.le_of_ble_eq_true rfl⟩ d_la_payFor_46 rfl (vp_nar_int _) h_12
theorem b_sh_hasRun_0 {E : gp_E} {S : gp_S} {X : gp_H} {Q : Option Value → gp_H → Prop} {x1 : Int32} {x2 : Int32} {x3 : Int32} (hX : Lay S X)  (hh : ((x2 < 0 → Q (some (.int 0)) X) ∧ (¬ x2 < 0 → ((x3 < 0 → Q (some (.int 0)) X) ∧ (¬ x3 < 0 → (vp_in x1 3 ∧ (((gI X 50 (Int32.toNatClampNeg x1)) < x3 → Q (some (.int 0)) X) ∧ (¬ (gI X 50 (Int32.toNatClampNeg x1)) < x3 → ((((gI X 50 (Int32.toNatClampNeg x1)) - x3) < x2 → Q (some (.int 0)) X) ∧ (¬ ((gI X 50 (Int32.toNatClampNeg x1)) - x3) < x2 → Q (some (.int 1)) X)))))))))) : Ev E m_sh_hasRun 0 [(0, .ref 48), (1, .int x1), (2, .int x2), (3, .int x3)] [] X (0, 0) Q := by
  refine ev_iload_n (x := x2) (pc := 0) d_sh_hasRun_0 rfl ?_
  refine ev_if_lt (pc := 1) (tgt := 34) d_sh_hasRun_1 (by decide) (fun c_1 => ?_) (fun c_1 => ?_)
  · have h_2 := hh.1 c_1
    refine ev_iconst (v := 0) (pc := 34) d_sh_hasRun_34 kc_i_0 ?_
    exact ev_iret (pc := 35) ⟨Nat.le_of_ble_eq_true rfl, Nat.le_of_ble_eq_true rfl⟩ d_sh_hasRun_35 rfl nb_0 h_2
  · have h_3 := hh.2 c_1
    refine ev_iload_n (x := x3) (pc := 4) d_sh_hasRun_4 rfl ?_
    refine ev_if_lt (pc := 5) (tgt := 34) d_sh_hasRun_5 (by decide) (fun c_4 => ?_) (fun c_4 => ?_)
    · have h_5 := h_3.1 c_4
      refine ev_iconst (v := 0) (pc := 34) d_sh_hasRun_34 kc_i_0 ?_
      exact ev_iret (pc := 35) ⟨Nat.le_of_ble_eq_true rfl, Nat.le_of_ble_eq_true rfl⟩ d_sh_hasRun_35 rfl nb_0 h_5
    · have h_6 := h_3.2 c_4
      refine ev_iload_n (x := x3) (pc := 8) d_sh_hasRun_8 rfl ?_
      refine ev_aload_n (x := 48) (pc := 9) d_sh_hasRun_9 rfl ?_
      refine ev_getR (pc := 10) d_sh_hasRun_10 f_sh_15 (ly_at hX 48 rfl) gg_9 rfl (ly_rf hX 48 1 rfl) ?_
      refine ev_iload_n (x := x1) (pc := 13) d_sh_hasRun_13 rfl ?_
      refine ev_ialdJ (v := (gI X 50 (Int32.toNatClampNeg x1))) (pc := 14) d_sh_hasRun_14 (ly_at hX 50 rfl) h_6.1 rfl ?_
      refine ev_icmp_gt (pc := 15) (tgt := 34) d_sh_hasRun_15 (by decide) (fun c_7 => ?_) (fun c_7 => ?_)
      · have h_8 := h_6.2.1 c_7
        refine ev_iconst (v := 0) (pc := 34) d_sh_hasRun_34 kc_i_0 ?_
        exact ev_iret (pc := 35) ⟨Nat.le_of_ble_eq_true rfl, Nat.le_of_ble_eq_true rfl⟩ d_sh_hasRun_35 rfl nb_0 h_8
      · have h_9 := h_6.2.2 c_7
        refine ev_iload_n (x := x2) (pc := 18) d_sh_hasRun_18 rfl ?_
        refine ev_aload_n (x := 48) (pc := 19) d_sh_hasRun_19 rfl ?_
        refine ev_getR (pc := 20) d_sh_hasRun_20 f_sh_15 (ly_at hX 48 rfl) gg_9 rfl (ly_rf hX 48 1 rfl) ?_
        refine ev_iload_n (x := x1) (pc := 23) d_sh_hasRun_23 rfl ?_
        refine ev_ialdJ (v := (gI X 50 (Int32.toNatClampNeg x1))) (pc := 24) d_sh_hasRun_24 (ly_at hX 50 rfl) h_6.1 rfl ?_
        refine ev_iload_n (x := x3) (pc := 25) d_sh_hasRun_25 rfl ?_
        refine ev_isub (pc := 26) d_sh_hasRun_26 ?_
        refine ev_icmp_gt (pc := 27) (tgt := 34) d_sh_hasRun_27 (by decide) (fun c_10 => ?_) (fun c_10 => ?_)
        · have h_11 := h_9.1 c_10
          refine ev_iconst (v := 0) (pc := 34) d_sh_hasRun_34 kc_i_0 ?_
          exact ev_iret (pc := 35) ⟨Nat.le_of_ble_eq_true rfl, Nat.le_of_ble_eq_true rfl⟩ d_sh_hasRun_35 rfl nb_0 h_11
        · have h_12 := h_9.2 c_10
          refine ev_iconst (v := 1) (pc := 30) d_sh_hasRun_30 kc_i_1 ?_
          refine ev_goto (pc := 31) (tgt := 35) d_sh_hasRun_31 (by decide) ?_
          exact ev_iret (pc := 35) ⟨Nat.le_of_ble_eq_true rfl, Nat.le_of_ble_eq_true rfl⟩ d_sh_hasRun_35 rfl nb_1 h_12
theorem b_tr_begin_0 {E : gp_E} {S : gp_S} {X : gp_H} {Q : Option Value → gp_H → Prop} {x1 : Int32} (hX : Lay S X)  (hh : ((20 ≤ (gI X 13 1) → Ev E m_tr_begin 19 [(0, .ref 13), (1, .int x1)] [] X (0, 0) Q) ∧ (¬ 20 ≤ (gI X 13 1) → (vp_in (gI X 13 1) 20 ∧ Ev E m_tr_begin 19 [(0, .ref 13), (1, .int x1)] [] (gp_sI X 14 (Int32.toNatClampNeg (gI X 13 1)) x1) (0, 0) Q)))) : Ev E m_tr_begin 0 [(0, .ref 13), (1, .int x1)] [] X (0, 0) Q := by
  refine ev_aload_n (x := 13) (pc := 0) d_tr_begin_0 rfl ?_
  refine ev_getJ (v := (gI X 13 1)) (pc := 1) d_tr_begin_1 f_tr_15 (ly_at hX 13 rfl) gg_10 rfl rfl ?_
  refine ev_bipush (v := 20) (pc := 4) d_tr_begin_4 kc_b_20 ?_
  refine ev_icmp_ge (pc := 6) (tgt := 19) d_tr_begin_6 (by decide) (fun c_1 => ?_) (fun c_1 => ?_)
  · have h_2 := hh.1 c_1
    exact h_2
  · have h_3 := hh.2 c_1
    refine ev_aload_n (x := 13) (pc := 9) d_tr_begin_9 rfl ?_
    refine ev_getR (pc := 10) d_tr_begin_10 f_tr_9 (ly_at hX 13 rfl) gg_10 rfl (ly_rf hX 13 0 rfl) ?_
    refine ev_aload_n (x := 13) (pc := 13) d_tr_begin_13 rfl ?_
    refine ev_getJ (v := (gI X 13 1)) (pc := 14) d_tr_begin_14 f_tr_15 (ly_at hX 13 rfl) gg_10 rfl rfl ?_
    refine ev_iload_n (x := x1) (pc := 17) d_tr_begin_17 rfl ?_
    refine ev_iast (pc := 18) d_tr_begin_18 (ly_at hX 14 rfl) h_3.1 ?_
    exact h_3.2
theorem b_tr_begin_19 {E : gp_E} {S : gp_S} {X : gp_H} {Q : Option Value → gp_H → Prop} {x1 : Int32} (hX : Lay S X)  (hh : Q none (gp_sI X 13 1 ((gI X 13 1) + 1))) : Ev E m_tr_begin 19 [(0, .ref 13), (1, .int x1)] [] X (0, 0) Q := by
  refine ev_aload_n (x := 13) (pc := 19) d_tr_begin_19 rfl ?_
  refine ev_dup (pc := 20) d_tr_begin_20 rfl ?_
  refine ev_getJ (v := (gI X 13 1)) (pc := 21) d_tr_begin_21 f_tr_15 (ly_at hX 13 rfl) gg_10 rfl rfl ?_
  refine ev_iconst (v := 1) (pc := 24) d_tr_begin_24 kc_i_1 ?_
  refine ev_iadd (pc := 25) d_tr_begin_25 ?_
  refine ev_putI (pc := 26) d_tr_begin_26 f_tr_15 (ly_at hX 13 rfl) gg_10 rfl (Or.inl rfl) (vp_nar_int _) rfl ?_
  exact ev_ret (pc := 29) ⟨Nat.le_of_ble_eq_true rfl, Nat.le_of_ble_eq_true rfl⟩ d_tr_begin_29 rfl hh
theorem b_ri_takes_0 {E : gp_E} {S : gp_S} {X : gp_H} {Q : Option Value → gp_H → Prop} {a0 : Nat} {c0 : Nat} {x1 : Int32} (hX : Lay S X) (ha0 : gp_at X a0 (c0, 0)) (hg0 : c0 < 13 ∧ gp_gid c0 = 7) (hh : ((¬ x1 = (gI X a0 2) → Q (some (.int 0)) X) ∧ (x1 = (gI X a0 2) → Q (some (.int (gI X a0 3))) X))) : Ev E m_ri_takes 0 [(0, .ref a0), (1, .int x1)] [] X (0, 0) Q := by
  refine ev_iload_n (x := x1) (pc := 0) d_ri_takes_0 rfl ?_
  refine ev_aload_n (x := a0) (pc := 1) d_ri_takes_1 rfl ?_
  refine ev_getJ (v := (gI X a0 2)) (pc := 2) d_ri_takes_2 f_ri_19 ha0 hg0 rfl rfl ?_
  refine ev_icmp_ne (pc := 5) (tgt := 15) d_ri_takes_5 (by decide) (fun c_1 => ?_) (fun c_1 => ?_)
  · have h_2 := hh.1 c_1
    refine ev_iconst (v := 0) (pc := 15) d_ri_takes_15 kc_i_0 ?_
    exact ev_iret (pc := 16) ⟨Nat.le_of_ble_eq_true rfl, Nat.le_of_ble_eq_true rfl⟩ d_ri_takes_16 rfl (vp_nar_int _) h_2
  · have h_3 := hh.2 c_1
    refine ev_aload_n (x := a0) (pc := 8) d_ri_takes_8 rfl ?_
    refine ev_getJ (v := (gI X a0 3)) (pc := 9) d_ri_takes_9 f_ri_22 ha0 hg0 rfl rfl ?_
    refine ev_goto (pc := 12) (tgt := 16) d_ri_takes_12 (by decide) ?_
    exact ev_iret (pc := 16) ⟨Nat.le_of_ble_eq_true rfl, Nat.le_of_ble_eq_true rfl⟩ d_ri_takes_16 rfl (vp_nar_int _) h_3
theorem b_ri_burns_0 {E : gp_E} {S : gp_S} {X : gp_H} {Q : Option Value → gp_H → Prop} {a0 : Nat} {c0 : Nat} {x1 : Int32} (hX : Lay S X) (ha0 : gp_at X a0 (c0, 0)) (hg0 : c0 < 13 ∧ gp_gid c0 = 7) (hh : (X.2.2.1 a0 0 = some 13 ∧ (∃ Qz_1, Ev E m_tr_begin 0 [(0, .ref 13), (1, .int 10)] [] X (0, 0) Qz_1 ∧ ∀ r X_4, Qz_1 r X_4 → (r = none ∧ Lay S X_4 ∧ gp_at X_4 a0 (c0, 0) ∧ Q (some (.int (x1 + (gI X_4 a0 3)))) X_4)))) : Ev E m_ri_burns 0 [(0, .ref a0), (1, .int x1)] [] X (0, 0) Q := by
  refine ev_aload_n (x := a0) (pc := 0) d_ri_burns_0 rfl ?_
  refine ev_getR (pc := 1) d_ri_burns_1 f_ri_9 ha0 hg0 rfl hh.1 ?_
  refine ev_bipush (v := 10) (pc := 4) d_ri_burns_4 kc_b_10 ?_
  obtain ⟨Qz_1, hc_2, hk_3⟩ := hh.2
  refine ev_callV (z := m_tr_begin) (as := [.int 10]) (rest := []) (pc := 6) d_ri_burns_6 (ly_at hX 13 rfl) lt13_10 rfl l_ri_31 i_tr_begin v_tr_begin o_tr_begin rfl rfl (Nat.le_of_ble_eq_true rfl) rfl (Nat.le_of_ble_eq_true rfl) ⟨Nat.le_of_ble_eq_true rfl, Nat.le_of_ble_eq_true rfl⟩ hc_2 (fun r_5 X_4 hq_6 => ?_)
  obtain ⟨rfl, hX_8, hm_9, h_7⟩ := hk_3 _ _ hq_6
  show Ev E m_ri_burns 9 [(0, .ref a0), (1, .int x1)] [] X_4 (0, 0) Q
  refine ev_iload_n (x := x1) (pc := 9) d_ri_burns_9 rfl ?_
  refine ev_aload_n (x := a0) (pc := 10) d_ri_burns_10 rfl ?_
  refine ev_getJ (v := (gI X_4 a0 3)) (pc := 11) d_ri_burns_11 f_ri_22 hm_9 hg0 rfl rfl ?_
  refine ev_iadd (pc := 14) d_ri_burns_14 ?_
  exact ev_iret (pc := 15) ⟨Nat.le_of_ble_eq_true rfl, Nat.le_of_ble_eq_true rfl⟩ d_ri_burns_15 rfl (vp_nar_int _) h_7
theorem b_ri_warms_0 {E : gp_E} {S : gp_S} {X : gp_H} {Q : Option Value → gp_H → Prop} {a0 : Nat} {c0 : Nat} {x1 : Int32} (hX : Lay S X) (ha0 : gp_at X a0 (c0, 0)) (hg0 : c0 < 13 ∧ gp_gid c0 = 7) (hh : (X.2.2.1 a0 0 = some 13 ∧ (∃ Qz_1, Ev E m_tr_begin 0 [(0, .ref 13), (1, .int 11)] [] X (0, 0) Qz_1 ∧ ∀ r X_4, Qz_1 r X_4 → (r = none ∧ Lay S X_4 ∧ gp_at X_4 a0 (c0, 0) ∧ (∃ Qz_10, ((c0 = 1 → Ev E m_fi_burns 0 [(0, .ref a0), (1, .int x1)] [] X_4 (0, 0) Qz_10) ∧ (c0 = 2 → Ev E m_gr_burns 0 [(0, .ref a0), (1, .int x1)] [] X_4 (0, 0) Qz_10) ∧ (c0 = 6 → Ev E m_ri_burns 0 [(0, .ref a0), (1, .int x1)] [] X_4 (0, 0) Qz_10) ∧ (c0 = 7 → Ev E m_ri_burns 0 [(0, .ref a0), (1, .int x1)] [] X_4 (0, 0) Qz_10)) ∧ ∀ r X_13, Qz_10 r X_13 → ∃ v_18 : Int32, r = some (.int v_18) ∧ Lay S X_13 ∧ gp_at X_13 a0 (c0, 0) ∧ Q (some (.int (v_18 * 2))) X_13))))) : Ev E m_ri_warms 0 [(0, .ref a0), (1, .int x1)] [] X (0, 0) Q := by
  refine ev_aload_n (x := a0) (pc := 0) d_ri_warms_0 rfl ?_
  refine ev_getR (pc := 1) d_ri_warms_1 f_ri_9 ha0 hg0 rfl hh.1 ?_
  refine ev_bipush (v := 11) (pc := 4) d_ri_warms_4 kc_b_11 ?_
  obtain ⟨Qz_1, hc_2, hk_3⟩ := hh.2
  refine ev_callV (z := m_tr_begin) (as := [.int 11]) (rest := []) (pc := 6) d_ri_warms_6 (ly_at hX 13 rfl) lt13_10 rfl l_ri_31 i_tr_begin v_tr_begin o_tr_begin rfl rfl (Nat.le_of_ble_eq_true rfl) rfl (Nat.le_of_ble_eq_true rfl) ⟨Nat.le_of_ble_eq_true rfl, Nat.le_of_ble_eq_true rfl⟩ hc_2 (fun r_5 X_4 hq_6 => ?_)
  obtain ⟨rfl, hX_8, hm_9, h_7⟩ := hk_3 _ _ hq_6
  show Ev E m_ri_warms 9 [(0, .ref a0), (1, .int x1)] [] X_4 (0, 0) Q
  refine ev_aload_n (x := a0) (pc := 9) d_ri_warms_9 rfl ?_
  refine ev_iload_n (x := x1) (pc := 10) d_ri_warms_10 rfl ?_
  obtain ⟨Qz_10, hc_11, hk_12⟩ := h_7
  have kk_20 : ∀ r X_13, Qz_10 r X_13 → Ev E m_ri_warms 14 [(0, .ref a0), (1, .int x1)] (r.toList ++ []) X_13 (0, 0) Q := by
    intro r_14 X_13 hq_15
    obtain ⟨v_18, rfl, hX_17, hm_19, h_16⟩ := hk_12 _ _ hq_15
    show Ev E m_ri_warms 14 [(0, .ref a0), (1, .int x1)] [.int v_18] X_13 (0, 0) Q
    refine ev_iconst (v := 2) (pc := 14) d_ri_warms_14 kc_i_2 ?_
    refine ev_imul (pc := 15) d_ri_warms_15 ?_
    exact ev_iret (pc := 16) ⟨Nat.le_of_ble_eq_true rfl, Nat.le_of_ble_eq_true rfl⟩ d_ri_warms_16 rfl (vp_nar_int _) h_16
  have hat := hm_9
  rcases gp_ring hg0 with e | e | e | e
  · have hz := hc_11.1 e
    rw [e] at hat
    exact ev_callU (z := m_fi_burns) (as := [.int x1]) (rest := []) (owner := "GasTurn$Ring") (pc := 11) d_ri_warms_11 hat lt13_1 l_ri_37 e_ri_ri_burns i_ri_burns o_ri_burns.2.2.2.1 i_fi_burns w_fi_ri_burns_fi_burns ⟨by decide, by decide, o_ri_burns.1⟩ o_fi_burns rfl rfl (Nat.le_of_ble_eq_true rfl) rfl (Nat.le_of_ble_eq_true rfl) ⟨Nat.le_of_ble_eq_true rfl, Nat.le_of_ble_eq_true rfl⟩ hz kk_20
  · have hz := hc_11.2.1 e
    rw [e] at hat
    exact ev_callU (z := m_gr_burns) (as := [.int x1]) (rest := []) (owner := "GasTurn$Ring") (pc := 11) d_ri_warms_11 hat lt13_2 l_ri_37 e_ri_ri_burns i_ri_burns o_ri_burns.2.2.2.1 i_gr_burns w_gr_ri_burns_gr_burns ⟨by decide, by decide, o_ri_burns.1⟩ o_gr_burns rfl rfl (Nat.le_of_ble_eq_true rfl) rfl (Nat.le_of_ble_eq_true rfl) ⟨Nat.le_of_ble_eq_true rfl, Nat.le_of_ble_eq_true rfl⟩ hz kk_20
  · have hz := hc_11.2.2.1 e
    rw [e] at hat
    exact ev_callU (z := m_ri_burns) (as := [.int x1]) (rest := []) (owner := "GasTurn$Ring") (pc := 11) d_ri_warms_11 hat lt13_6 l_ri_37 e_ri_ri_burns i_ri_burns o_ri_burns.2.2.2.1 i_ri_burns w_ov_ri_burns_ri_burns ⟨by decide, by decide, o_ri_burns.1⟩ o_ri_burns rfl rfl (Nat.le_of_ble_eq_true rfl) rfl (Nat.le_of_ble_eq_true rfl) ⟨Nat.le_of_ble_eq_true rfl, Nat.le_of_ble_eq_true rfl⟩ hz kk_20
  · have hz := hc_11.2.2.2 e
    rw [e] at hat
    exact ev_callU (z := m_ri_burns) (as := [.int x1]) (rest := []) (owner := "GasTurn$Ring") (pc := 11) d_ri_warms_11 hat lt13_7 l_ri_37 e_ri_ri_burns i_ri_burns o_ri_burns.2.2.2.1 i_ri_burns w_ri_ri_burns_ri_burns ⟨by decide, by decide, o_ri_burns.1⟩ o_ri_burns rfl rfl (Nat.le_of_ble_eq_true rfl) rfl (Nat.le_of_ble_eq_true rfl) ⟨Nat.le_of_ble_eq_true rfl, Nat.le_of_ble_eq_true rfl⟩ hz kk_20
theorem b_ri_fits_0 {E : gp_E} {S : gp_S} {X : gp_H} {Q : Option Value → gp_H → Prop} {a0 : Nat} {c0 : Nat} {x1 : Int32} (hX : Lay S X) (ha0 : gp_at X a0 (c0, 0)) (hg0 : c0 < 13 ∧ gp_gid c0 = 7) (hh : (X.2.2.1 a0 0 = some 13 ∧ (∃ Qz_1, Ev E m_tr_begin 0 [(0, .ref 13), (1, .int 12)] [] X (0, 0) Qz_1 ∧ ∀ r X_4, Qz_1 r X_4 → (r = none ∧ Lay S X_4 ∧ gp_at X_4 a0 (c0, 0) ∧ (∃ Qz_10, ((c0 = 1 → Ev E m_fi_warms 0 [(0, .ref a0), (1, .int x1)] [] X_4 (0, 0) Qz_10) ∧ (c0 = 2 → Ev E m_ov_warms 0 [(0, .ref a0), (1, .int x1)] [] X_4 (0, 0) Qz_10) ∧ (c0 = 6 → Ev E m_ov_warms 0 [(0, .ref a0), (1, .int x1)] [] X_4 (0, 0) Qz_10) ∧ (c0 = 7 → Ev E m_ri_warms 0 [(0, .ref a0), (1, .int x1)] [] X_4 (0, 0) Qz_10)) ∧ ∀ r X_13, Qz_10 r X_13 → ∃ v_18 : Int32, r = some (.int v_18) ∧ Lay S X_13 ∧ gp_at X_13 a0 (c0, 0) ∧ (∃ Qz_21, ((c0 = 1 → Ev E m_fi_burns 0 [(0, .ref a0), (1, .int (x1 + (gI X_13 a0 1)))] [] X_13 (0, 0) Qz_21) ∧ (c0 = 2 → Ev E m_gr_burns 0 [(0, .ref a0), (1, .int (x1 + (gI X_13 a0 1)))] [] X_13 (0, 0) Qz_21) ∧ (c0 = 6 → Ev E m_ri_burns 0 [(0, .ref a0), (1, .int (x1 + (gI X_13 a0 1)))] [] X_13 (0, 0) Qz_21) ∧ (c0 = 7 → Ev E m_ri_burns 0 [(0, .ref a0), (1, .int (x1 + (gI X_13 a0 1)))] [] X_13 (0, 0) Qz_21)) ∧ ∀ r X_24, Qz_21 r X_24 → ∃ v_29 : Int32, r = some (.int v_29) ∧ Lay S X_24 ∧ gp_at X_24 a0 (c0, 0) ∧ Q (some (.int (v_18 ^^^ v_29))) X_24)))))) : Ev E m_ri_fits 0 [(0, .ref a0), (1, .int x1)] [] X (0, 0) Q := by
  refine ev_aload_n (x := a0) (pc := 0) d_ri_fits_0 rfl ?_
  refine ev_getR (pc := 1) d_ri_fits_1 f_ri_9 ha0 hg0 rfl hh.1 ?_
  refine ev_bipush (v := 12) (pc := 4) d_ri_fits_4 kc_b_12 ?_
  obtain ⟨Qz_1, hc_2, hk_3⟩ := hh.2
  refine ev_callV (z := m_tr_begin) (as := [.int 12]) (rest := []) (pc := 6) d_ri_fits_6 (ly_at hX 13 rfl) lt13_10 rfl l_ri_31 i_tr_begin v_tr_begin o_tr_begin rfl rfl (Nat.le_of_ble_eq_true rfl) rfl (Nat.le_of_ble_eq_true rfl) ⟨Nat.le_of_ble_eq_true rfl, Nat.le_of_ble_eq_true rfl⟩ hc_2 (fun r_5 X_4 hq_6 => ?_)
  obtain ⟨rfl, hX_8, hm_9, h_7⟩ := hk_3 _ _ hq_6
  show Ev E m_ri_fits 9 [(0, .ref a0), (1, .int x1)] [] X_4 (0, 0) Q
  refine ev_aload_n (x := a0) (pc := 9) d_ri_fits_9 rfl ?_
  refine ev_iload_n (x := x1) (pc := 10) d_ri_fits_10 rfl ?_
  obtain ⟨Qz_10, hc_11, hk_12⟩ := h_7
  have kk_20 : ∀ r X_13, Qz_10 r X_13 → Ev E m_ri_fits 14 [(0, .ref a0), (1, .int x1)] (r.toList ++ []) X_13 (0, 0) Q := by
    intro r_14 X_13 hq_15
    obtain ⟨v_18, rfl, hX_17, hm_19, h_16⟩ := hk_12 _ _ hq_15
    show Ev E m_ri_fits 14 [(0, .ref a0), (1, .int x1)] [.int v_18] X_13 (0, 0) Q
    refine ev_aload_n (x := a0) (pc := 14) d_ri_fits_14 rfl ?_
    refine ev_iload_n (x := x1) (pc := 15) d_ri_fits_15 rfl ?_
    refine ev_aload_n (x := a0) (pc := 16) d_ri_fits_16 rfl ?_
    refine ev_getJ (v := (gI X_13 a0 1)) (pc := 17) d_ri_fits_17 f_ri_15 hm_19 hg0 rfl rfl ?_
    refine ev_iadd (pc := 20) d_ri_fits_20 ?_
    obtain ⟨Qz_21, hc_22, hk_23⟩ := h_16
    have kk_31 : ∀ r X_24, Qz_21 r X_24 → Ev E m_ri_fits 24 [(0, .ref a0), (1, .int x1)] (r.toList ++ [.int v_18]) X_24 (0, 0) Q := by
      intro r_25 X_24 hq_26
      obtain ⟨v_29, rfl, hX_28, hm_30, h_27⟩ := hk_23 _ _ hq_26
      show Ev E m_ri_fits 24 [(0, .ref a0), (1, .int x1)] [.int v_29, .int v_18] X_24 (0, 0) Q
      refine ev_ixor (pc := 24) d_ri_fits_24 ?_
      exact ev_iret (pc := 25) ⟨Nat.le_of_ble_eq_true rfl, Nat.le_of_ble_eq_true rfl⟩ d_ri_fits_25 rfl (vp_nar_int _) h_27
    have hat := hm_19
    rcases gp_ring hg0 with e | e | e | e
    · have hz := hc_22.1 e
      rw [e] at hat
      exact ev_callU (z := m_fi_burns) (as := [.int (x1 + (gI X_13 a0 1))]) (rest := [.int v_18]) (owner := "GasTurn$Ring") (pc := 21) d_ri_fits_21 hat lt13_1 l_ri_37 e_ri_ri_burns i_ri_burns o_ri_burns.2.2.2.1 i_fi_burns w_fi_ri_burns_fi_burns ⟨by decide, by decide, o_ri_burns.1⟩ o_fi_burns rfl rfl (Nat.le_of_ble_eq_true rfl) rfl (Nat.le_of_ble_eq_true rfl) ⟨Nat.le_of_ble_eq_true rfl, Nat.le_of_ble_eq_true rfl⟩ hz kk_31
    · have hz := hc_22.2.1 e
      rw [e] at hat
      exact ev_callU (z := m_gr_burns) (as := [.int (x1 + (gI X_13 a0 1))]) (rest := [.int v_18]) (owner := "GasTurn$Ring") (pc := 21) d_ri_fits_21 hat lt13_2 l_ri_37 e_ri_ri_burns i_ri_burns o_ri_burns.2.2.2.1 i_gr_burns w_gr_ri_burns_gr_burns ⟨by decide, by decide, o_ri_burns.1⟩ o_gr_burns rfl rfl (Nat.le_of_ble_eq_true rfl) rfl (Nat.le_of_ble_eq_true rfl) ⟨Nat.le_of_ble_eq_true rfl, Nat.le_of_ble_eq_true rfl⟩ hz kk_31
    · have hz := hc_22.2.2.1 e
      rw [e] at hat
      exact ev_callU (z := m_ri_burns) (as := [.int (x1 + (gI X_13 a0 1))]) (rest := [.int v_18]) (owner := "GasTurn$Ring") (pc := 21) d_ri_fits_21 hat lt13_6 l_ri_37 e_ri_ri_burns i_ri_burns o_ri_burns.2.2.2.1 i_ri_burns w_ov_ri_burns_ri_burns ⟨by decide, by decide, o_ri_burns.1⟩ o_ri_burns rfl rfl (Nat.le_of_ble_eq_true rfl) rfl (Nat.le_of_ble_eq_true rfl) ⟨Nat.le_of_ble_eq_true rfl, Nat.le_of_ble_eq_true rfl⟩ hz kk_31
    · have hz := hc_22.2.2.2 e
      rw [e] at hat
      exact ev_callU (z := m_ri_burns) (as := [.int (x1 + (gI X_13 a0 1))]) (rest := [.int v_18]) (owner := "GasTurn$Ring") (pc := 21) d_ri_fits_21 hat lt13_7 l_ri_37 e_ri_ri_burns i_ri_burns o_ri_burns.2.2.2.1 i_ri_burns w_ri_ri_burns_ri_burns ⟨by decide, by decide, o_ri_burns.1⟩ o_ri_burns rfl rfl (Nat.le_of_ble_eq_true rfl) rfl (Nat.le_of_ble_eq_true rfl) ⟨Nat.le_of_ble_eq_true rfl, Nat.le_of_ble_eq_true rfl⟩ hz kk_31
  have hat := hm_9
  rcases gp_ring hg0 with e | e | e | e
  · have hz := hc_11.1 e
    rw [e] at hat
    exact ev_callU (z := m_fi_warms) (as := [.int x1]) (rest := []) (owner := "GasTurn$Ring") (pc := 11) d_ri_fits_11 hat lt13_1 l_ri_41 e_ri_ri_warms i_ri_warms o_ri_warms.2.2.2.1 i_fi_warms w_fi_ri_warms_fi_warms ⟨by decide, by decide, o_ri_warms.1⟩ o_fi_warms rfl rfl (Nat.le_of_ble_eq_true rfl) rfl (Nat.le_of_ble_eq_true rfl) ⟨Nat.le_of_ble_eq_true rfl, Nat.le_of_ble_eq_true rfl⟩ hz kk_20
  · have hz := hc_11.2.1 e
    rw [e] at hat
    exact ev_callU (z := m_ov_warms) (as := [.int x1]) (rest := []) (owner := "GasTurn$Ring") (pc := 11) d_ri_fits_11 hat lt13_2 l_ri_41 e_ri_ri_warms i_ri_warms o_ri_warms.2.2.2.1 i_ov_warms w_gr_ri_warms_ov_warms ⟨by decide, by decide, o_ri_warms.1⟩ o_ov_warms rfl rfl (Nat.le_of_ble_eq_true rfl) rfl (Nat.le_of_ble_eq_true rfl) ⟨Nat.le_of_ble_eq_true rfl, Nat.le_of_ble_eq_true rfl⟩ hz kk_20
  · have hz := hc_11.2.2.1 e
    rw [e] at hat
    exact ev_callU (z := m_ov_warms) (as := [.int x1]) (rest := []) (owner := "GasTurn$Ring") (pc := 11) d_ri_fits_11 hat lt13_6 l_ri_41 e_ri_ri_warms i_ri_warms o_ri_warms.2.2.2.1 i_ov_warms w_ov_ri_warms_ov_warms ⟨by decide, by decide, o_ri_warms.1⟩ o_ov_warms rfl rfl (Nat.le_of_ble_eq_true rfl) rfl (Nat.le_of_ble_eq_true rfl) ⟨Nat.le_of_ble_eq_true rfl, Nat.le_of_ble_eq_true rfl⟩ hz kk_20
  · have hz := hc_11.2.2.2 e
    rw [e] at hat
    exact ev_callU (z := m_ri_warms) (as := [.int x1]) (rest := []) (owner := "GasTurn$Ring") (pc := 11) d_ri_fits_11 hat lt13_7 l_ri_41 e_ri_ri_warms i_ri_warms o_ri_warms.2.2.2.1 i_ri_warms w_ri_ri_warms_ri_warms ⟨by decide, by decide, o_ri_warms.1⟩ o_ri_warms rfl rfl (Nat.le_of_ble_eq_true rfl) rfl (Nat.le_of_ble_eq_true rfl) ⟨Nat.le_of_ble_eq_true rfl, Nat.le_of_ble_eq_true rfl⟩ hz kk_20
theorem b_ri_kindNumber_0 {E : gp_E} {S : gp_S} {X : gp_H} {Q : Option Value → gp_H → Prop} {a0 : Nat} {c0 : Nat} (hX : Lay S X) (ha0 : gp_at X a0 (c0, 0)) (hg0 : c0 < 13 ∧ gp_gid c0 = 7) (hh : Q (some (.int 0)) X) : Ev E m_ri_kindNumber 0 [(0, .ref a0)] [] X (0, 0) Q := by
  refine ev_iconst (v := 0) (pc := 0) d_ri_kindNumber_0 kc_i_0 ?_
  exact ev_iret (pc := 1) ⟨Nat.le_of_ble_eq_true rfl, Nat.le_of_ble_eq_true rfl⟩ d_ri_kindNumber_1 rfl (vp_nar_int _) hh
theorem b_fi_kindNumber_0 {E : gp_E} {S : gp_S} {X : gp_H} {Q : Option Value → gp_H → Prop} {a0 : Nat} {c0 : Nat} (hX : Lay S X) (ha0 : gp_at X a0 (c0, 0)) (hg0 : c0 < 13 ∧ gp_gid c0 = 7) (hh : Q (some (.int 3)) X) : Ev E m_fi_kindNumber 0 [(0, .ref a0)] [] X (0, 0) Q := by
  refine ev_iconst (v := 3) (pc := 0) d_fi_kindNumber_0 kc_i_3 ?_
  exact ev_iret (pc := 1) ⟨Nat.le_of_ble_eq_true rfl, Nat.le_of_ble_eq_true rfl⟩ d_fi_kindNumber_1 rfl (vp_nar_int _) hh
theorem b_ov_kindNumber_0 {E : gp_E} {S : gp_S} {X : gp_H} {Q : Option Value → gp_H → Prop} {a0 : Nat} {c0 : Nat} (hX : Lay S X) (ha0 : gp_at X a0 (c0, 0)) (hg0 : c0 < 13 ∧ gp_gid c0 = 7) (hh : Q (some (.int 1)) X) : Ev E m_ov_kindNumber 0 [(0, .ref a0)] [] X (0, 0) Q := by
  refine ev_iconst (v := 1) (pc := 0) d_ov_kindNumber_0 kc_i_1 ?_
  exact ev_iret (pc := 1) ⟨Nat.le_of_ble_eq_true rfl, Nat.le_of_ble_eq_true rfl⟩ d_ov_kindNumber_1 rfl (vp_nar_int _) hh
theorem b_gr_kindNumber_0 {E : gp_E} {S : gp_S} {X : gp_H} {Q : Option Value → gp_H → Prop} {a0 : Nat} {c0 : Nat} (hX : Lay S X) (ha0 : gp_at X a0 (c0, 0)) (hg0 : c0 < 13 ∧ gp_gid c0 = 7) (hh : Q (some (.int 2)) X) : Ev E m_gr_kindNumber 0 [(0, .ref a0)] [] X (0, 0) Q := by
  refine ev_iconst (v := 2) (pc := 0) d_gr_kindNumber_0 kc_i_2 ?_
  exact ev_iret (pc := 1) ⟨Nat.le_of_ble_eq_true rfl, Nat.le_of_ble_eq_true rfl⟩ d_gr_kindNumber_1 rfl (vp_nar_int _) hh
theorem b_in_bitCount_0 {E : gp_E} {S : gp_S} {X : gp_H} {Q : Option Value → gp_H → Prop} {x0 : Int32} (hX : Lay S X)  (hh : Q (some (.int ((((((((x0 - (((Int32.toUInt32 x0 >>> (Int32.toUInt32 1 &&& Int32.toUInt32 31)).toInt32) &&& 1431655765)) &&& 858993459) + (((Int32.toUInt32 (x0 - (((Int32.toUInt32 x0 >>> (Int32.toUInt32 1 &&& Int32.toUInt32 31)).toInt32) &&& 1431655765)) >>> (Int32.toUInt32 2 &&& Int32.toUInt32 31)).toInt32) &&& 858993459)) + ((Int32.toUInt32 (((x0 - (((Int32.toUInt32 x0 >>> (Int32.toUInt32 1 &&& Int32.toUInt32 31)).toInt32) &&& 1431655765)) &&& 858993459) + (((Int32.toUInt32 (x0 - (((Int32.toUInt32 x0 >>> (Int32.toUInt32 1 &&& Int32.toUInt32 31)).toInt32) &&& 1431655765)) >>> (Int32.toUInt32 2 &&& Int32.toUInt32 31)).toInt32) &&& 858993459)) >>> (Int32.toUInt32 4 &&& Int32.toUInt32 31)).toInt32)) &&& 252645135) + ((Int32.toUInt32 (((((x0 - (((Int32.toUInt32 x0 >>> (Int32.toUInt32 1 &&& Int32.toUInt32 31)).toInt32) &&& 1431655765)) &&& 858993459) + (((Int32.toUInt32 (x0 - (((Int32.toUInt32 x0 >>> (Int32.toUInt32 1 &&& Int32.toUInt32 31)).toInt32) &&& 1431655765)) >>> (Int32.toUInt32 2 &&& Int32.toUInt32 31)).toInt32) &&& 858993459)) + ((Int32.toUInt32 (((x0 - (((Int32.toUInt32 x0 >>> (Int32.toUInt32 1 &&& Int32.toUInt32 31)).toInt32) &&& 1431655765)) &&& 858993459) + (((Int32.toUInt32 (x0 - (((Int32.toUInt32 x0 >>> (Int32.toUInt32 1 &&& Int32.toUInt32 31)).toInt32) &&& 1431655765)) >>> (Int32.toUInt32 2 &&& Int32.toUInt32 31)).toInt32) &&& 858993459)) >>> (Int32.toUInt32 4 &&& Int32.toUInt32 31)).toInt32)) &&& 252645135) >>> (Int32.toUInt32 8 &&& Int32.toUInt32 31)).toInt32)) + ((Int32.toUInt32 ((((((x0 - (((Int32.toUInt32 x0 >>> (Int32.toUInt32 1 &&& Int32.toUInt32 31)).toInt32) &&& 1431655765)) &&& 858993459) + (((Int32.toUInt32 (x0 - (((Int32.toUInt32 x0 >>> (Int32.toUInt32 1 &&& Int32.toUInt32 31)).toInt32) &&& 1431655765)) >>> (Int32.toUInt32 2 &&& Int32.toUInt32 31)).toInt32) &&& 858993459)) + ((Int32.toUInt32 (((x0 - (((Int32.toUInt32 x0 >>> (Int32.toUInt32 1 &&& Int32.toUInt32 31)).toInt32) &&& 1431655765)) &&& 858993459) + (((Int32.toUInt32 (x0 - (((Int32.toUInt32 x0 >>> (Int32.toUInt32 1 &&& Int32.toUInt32 31)).toInt32) &&& 1431655765)) >>> (Int32.toUInt32 2 &&& Int32.toUInt32 31)).toInt32) &&& 858993459)) >>> (Int32.toUInt32 4 &&& Int32.toUInt32 31)).toInt32)) &&& 252645135) + ((Int32.toUInt32 (((((x0 - (((Int32.toUInt32 x0 >>> (Int32.toUInt32 1 &&& Int32.toUInt32 31)).toInt32) &&& 1431655765)) &&& 858993459) + (((Int32.toUInt32 (x0 - (((Int32.toUInt32 x0 >>> (Int32.toUInt32 1 &&& Int32.toUInt32 31)).toInt32) &&& 1431655765)) >>> (Int32.toUInt32 2 &&& Int32.toUInt32 31)).toInt32) &&& 858993459)) + ((Int32.toUInt32 (((x0 - (((Int32.toUInt32 x0 >>> (Int32.toUInt32 1 &&& Int32.toUInt32 31)).toInt32) &&& 1431655765)) &&& 858993459) + (((Int32.toUInt32 (x0 - (((Int32.toUInt32 x0 >>> (Int32.toUInt32 1 &&& Int32.toUInt32 31)).toInt32) &&& 1431655765)) >>> (Int32.toUInt32 2 &&& Int32.toUInt32 31)).toInt32) &&& 858993459)) >>> (Int32.toUInt32 4 &&& Int32.toUInt32 31)).toInt32)) &&& 252645135) >>> (Int32.toUInt32 8 &&& Int32.toUInt32 31)).toInt32)) >>> (Int32.toUInt32 16 &&& Int32.toUInt32 31)).toInt32)) &&& 63))) X) : Ev E m_in_bitCount 0 [(0, .int x0)] [] X (0, 0) Q := by
  refine ev_iload_n (x := x0) (pc := 0) d_in_bitCount_0 rfl ?_
  refine ev_iload_n (x := x0) (pc := 1) d_in_bitCount_1 rfl ?_
  refine ev_iconst (v := 1) (pc := 2) d_in_bitCount_2 kc_i_1 ?_
  refine ev_iushr (pc := 3) d_in_bitCount_3 ?_
  refine ev_ldcw (pc := 4) d_in_bitCount_4 k_in_265 ?_
  refine ev_iand (pc := 7) d_in_bitCount_7 ?_
  refine ev_isub (pc := 8) d_in_bitCount_8 ?_
  refine ev_istore_n (L2 := [(0, .int (x0 - (((Int32.toUInt32 x0 >>> (Int32.toUInt32 1 &&& Int32.toUInt32 31)).toInt32) &&& 1431655765)))]) (pc := 9) d_in_bitCount_9 rfl (Nat.le_of_ble_eq_true rfl) rfl ?_
  refine ev_iload_n (x := (x0 - (((Int32.toUInt32 x0 >>> (Int32.toUInt32 1 &&& Int32.toUInt32 31)).toInt32) &&& 1431655765))) (pc := 10) d_in_bitCount_10 rfl ?_
  refine ev_ldcw (pc := 11) d_in_bitCount_11 k_in_266 ?_
  refine ev_iand (pc := 14) d_in_bitCount_14 ?_
  refine ev_iload_n (x := (x0 - (((Int32.toUInt32 x0 >>> (Int32.toUInt32 1 &&& Int32.toUInt32 31)).toInt32) &&& 1431655765))) (pc := 15) d_in_bitCount_15 rfl ?_
  refine ev_iconst (v := 2) (pc := 16) d_in_bitCount_16 kc_i_2 ?_
  refine ev_iushr (pc := 17) d_in_bitCount_17 ?_
  refine ev_ldcw (pc := 18) d_in_bitCount_18 k_in_266 ?_
  refine ev_iand (pc := 21) d_in_bitCount_21 ?_
  refine ev_iadd (pc := 22) d_in_bitCount_22 ?_
  refine ev_istore_n (L2 := [(0, .int (((x0 - (((Int32.toUInt32 x0 >>> (Int32.toUInt32 1 &&& Int32.toUInt32 31)).toInt32) &&& 1431655765)) &&& 858993459) + (((Int32.toUInt32 (x0 - (((Int32.toUInt32 x0 >>> (Int32.toUInt32 1 &&& Int32.toUInt32 31)).toInt32) &&& 1431655765)) >>> (Int32.toUInt32 2 &&& Int32.toUInt32 31)).toInt32) &&& 858993459)))]) (pc := 23) d_in_bitCount_23 rfl (Nat.le_of_ble_eq_true rfl) rfl ?_
  refine ev_iload_n (x := (((x0 - (((Int32.toUInt32 x0 >>> (Int32.toUInt32 1 &&& Int32.toUInt32 31)).toInt32) &&& 1431655765)) &&& 858993459) + (((Int32.toUInt32 (x0 - (((Int32.toUInt32 x0 >>> (Int32.toUInt32 1 &&& Int32.toUInt32 31)).toInt32) &&& 1431655765)) >>> (Int32.toUInt32 2 &&& Int32.toUInt32 31)).toInt32) &&& 858993459))) (pc := 24) d_in_bitCount_24 rfl ?_
  refine ev_iload_n (x := (((x0 - (((Int32.toUInt32 x0 >>> (Int32.toUInt32 1 &&& Int32.toUInt32 31)).toInt32) &&& 1431655765)) &&& 858993459) + (((Int32.toUInt32 (x0 - (((Int32.toUInt32 x0 >>> (Int32.toUInt32 1 &&& Int32.toUInt32 31)).toInt32) &&& 1431655765)) >>> (Int32.toUInt32 2 &&& Int32.toUInt32 31)).toInt32) &&& 858993459))) (pc := 25) d_in_bitCount_25 rfl ?_
  refine ev_iconst (v := 4) (pc := 26) d_in_bitCount_26 kc_i_4 ?_
  refine ev_iushr (pc := 27) d_in_bitCount_27 ?_
  refine ev_iadd (pc := 28) d_in_bitCount_28 ?_
  refine ev_ldcw (pc := 29) d_in_bitCount_29 k_in_267 ?_
  refine ev_iand (pc := 32) d_in_bitCount_32 ?_
  refine ev_istore_n (L2 := [(0, .int (((((x0 - (((Int32.toUInt32 x0 >>> (Int32.toUInt32 1 &&& Int32.toUInt32 31)).toInt32) &&& 1431655765)) &&& 858993459) + (((Int32.toUInt32 (x0 - (((Int32.toUInt32 x0 >>> (Int32.toUInt32 1 &&& Int32.toUInt32 31)).toInt32) &&& 1431655765)) >>> (Int32.toUInt32 2 &&& Int32.toUInt32 31)).toInt32) &&& 858993459)) + ((Int32.toUInt32 (((x0 - (((Int32.toUInt32 x0 >>> (Int32.toUInt32 1 &&& Int32.toUInt32 31)).toInt32) &&& 1431655765)) &&& 858993459) + (((Int32.toUInt32 (x0 - (((Int32.toUInt32 x0 >>> (Int32.toUInt32 1 &&& Int32.toUInt32 31)).toInt32) &&& 1431655765)) >>> (Int32.toUInt32 2 &&& Int32.toUInt32 31)).toInt32) &&& 858993459)) >>> (Int32.toUInt32 4 &&& Int32.toUInt32 31)).toInt32)) &&& 252645135))]) (pc := 33) d_in_bitCount_33 rfl (Nat.le_of_ble_eq_true rfl) rfl ?_
  refine ev_iload_n (x := (((((x0 - (((Int32.toUInt32 x0 >>> (Int32.toUInt32 1 &&& Int32.toUInt32 31)).toInt32) &&& 1431655765)) &&& 858993459) + (((Int32.toUInt32 (x0 - (((Int32.toUInt32 x0 >>> (Int32.toUInt32 1 &&& Int32.toUInt32 31)).toInt32) &&& 1431655765)) >>> (Int32.toUInt32 2 &&& Int32.toUInt32 31)).toInt32) &&& 858993459)) + ((Int32.toUInt32 (((x0 - (((Int32.toUInt32 x0 >>> (Int32.toUInt32 1 &&& Int32.toUInt32 31)).toInt32) &&& 1431655765)) &&& 858993459) + (((Int32.toUInt32 (x0 - (((Int32.toUInt32 x0 >>> (Int32.toUInt32 1 &&& Int32.toUInt32 31)).toInt32) &&& 1431655765)) >>> (Int32.toUInt32 2 &&& Int32.toUInt32 31)).toInt32) &&& 858993459)) >>> (Int32.toUInt32 4 &&& Int32.toUInt32 31)).toInt32)) &&& 252645135)) (pc := 34) d_in_bitCount_34 rfl ?_
  refine ev_iload_n (x := (((((x0 - (((Int32.toUInt32 x0 >>> (Int32.toUInt32 1 &&& Int32.toUInt32 31)).toInt32) &&& 1431655765)) &&& 858993459) + (((Int32.toUInt32 (x0 - (((Int32.toUInt32 x0 >>> (Int32.toUInt32 1 &&& Int32.toUInt32 31)).toInt32) &&& 1431655765)) >>> (Int32.toUInt32 2 &&& Int32.toUInt32 31)).toInt32) &&& 858993459)) + ((Int32.toUInt32 (((x0 - (((Int32.toUInt32 x0 >>> (Int32.toUInt32 1 &&& Int32.toUInt32 31)).toInt32) &&& 1431655765)) &&& 858993459) + (((Int32.toUInt32 (x0 - (((Int32.toUInt32 x0 >>> (Int32.toUInt32 1 &&& Int32.toUInt32 31)).toInt32) &&& 1431655765)) >>> (Int32.toUInt32 2 &&& Int32.toUInt32 31)).toInt32) &&& 858993459)) >>> (Int32.toUInt32 4 &&& Int32.toUInt32 31)).toInt32)) &&& 252645135)) (pc := 35) d_in_bitCount_35 rfl ?_
  refine ev_bipush (v := 8) (pc := 36) d_in_bitCount_36 kc_b_8 ?_
  refine ev_iushr (pc := 38) d_in_bitCount_38 ?_
  refine ev_iadd (pc := 39) d_in_bitCount_39 ?_
  refine ev_istore_n (L2 := [(0, .int ((((((x0 - (((Int32.toUInt32 x0 >>> (Int32.toUInt32 1 &&& Int32.toUInt32 31)).toInt32) &&& 1431655765)) &&& 858993459) + (((Int32.toUInt32 (x0 - (((Int32.toUInt32 x0 >>> (Int32.toUInt32 1 &&& Int32.toUInt32 31)).toInt32) &&& 1431655765)) >>> (Int32.toUInt32 2 &&& Int32.toUInt32 31)).toInt32) &&& 858993459)) + ((Int32.toUInt32 (((x0 - (((Int32.toUInt32 x0 >>> (Int32.toUInt32 1 &&& Int32.toUInt32 31)).toInt32) &&& 1431655765)) &&& 858993459) + (((Int32.toUInt32 (x0 - (((Int32.toUInt32 x0 >>> (Int32.toUInt32 1 &&& Int32.toUInt32 31)).toInt32) &&& 1431655765)) >>> (Int32.toUInt32 2 &&& Int32.toUInt32 31)).toInt32) &&& 858993459)) >>> (Int32.toUInt32 4 &&& Int32.toUInt32 31)).toInt32)) &&& 252645135) + ((Int32.toUInt32 (((((x0 - (((Int32.toUInt32 x0 >>> (Int32.toUInt32 1 &&& Int32.toUInt32 31)).toInt32) &&& 1431655765)) &&& 858993459) + (((Int32.toUInt32 (x0 - (((Int32.toUInt32 x0 >>> (Int32.toUInt32 1 &&& Int32.toUInt32 31)).toInt32) &&& 1431655765)) >>> (Int32.toUInt32 2 &&& Int32.toUInt32 31)).toInt32) &&& 858993459)) + ((Int32.toUInt32 (((x0 - (((Int32.toUInt32 x0 >>> (Int32.toUInt32 1 &&& Int32.toUInt32 31)).toInt32) &&& 1431655765)) &&& 858993459) + (((Int32.toUInt32 (x0 - (((Int32.toUInt32 x0 >>> (Int32.toUInt32 1 &&& Int32.toUInt32 31)).toInt32) &&& 1431655765)) >>> (Int32.toUInt32 2 &&& Int32.toUInt32 31)).toInt32) &&& 858993459)) >>> (Int32.toUInt32 4 &&& Int32.toUInt32 31)).toInt32)) &&& 252645135) >>> (Int32.toUInt32 8 &&& Int32.toUInt32 31)).toInt32)))]) (pc := 40) d_in_bitCount_40 rfl (Nat.le_of_ble_eq_true rfl) rfl ?_
  refine ev_iload_n (x := ((((((x0 - (((Int32.toUInt32 x0 >>> (Int32.toUInt32 1 &&& Int32.toUInt32 31)).toInt32) &&& 1431655765)) &&& 858993459) + (((Int32.toUInt32 (x0 - (((Int32.toUInt32 x0 >>> (Int32.toUInt32 1 &&& Int32.toUInt32 31)).toInt32) &&& 1431655765)) >>> (Int32.toUInt32 2 &&& Int32.toUInt32 31)).toInt32) &&& 858993459)) + ((Int32.toUInt32 (((x0 - (((Int32.toUInt32 x0 >>> (Int32.toUInt32 1 &&& Int32.toUInt32 31)).toInt32) &&& 1431655765)) &&& 858993459) + (((Int32.toUInt32 (x0 - (((Int32.toUInt32 x0 >>> (Int32.toUInt32 1 &&& Int32.toUInt32 31)).toInt32) &&& 1431655765)) >>> (Int32.toUInt32 2 &&& Int32.toUInt32 31)).toInt32) &&& 858993459)) >>> (Int32.toUInt32 4 &&& Int32.toUInt32 31)).toInt32)) &&& 252645135) + ((Int32.toUInt32 (((((x0 - (((Int32.toUInt32 x0 >>> (Int32.toUInt32 1 &&& Int32.toUInt32 31)).toInt32) &&& 1431655765)) &&& 858993459) + (((Int32.toUInt32 (x0 - (((Int32.toUInt32 x0 >>> (Int32.toUInt32 1 &&& Int32.toUInt32 31)).toInt32) &&& 1431655765)) >>> (Int32.toUInt32 2 &&& Int32.toUInt32 31)).toInt32) &&& 858993459)) + ((Int32.toUInt32 (((x0 - (((Int32.toUInt32 x0 >>> (Int32.toUInt32 1 &&& Int32.toUInt32 31)).toInt32) &&& 1431655765)) &&& 858993459) + (((Int32.toUInt32 (x0 - (((Int32.toUInt32 x0 >>> (Int32.toUInt32 1 &&& Int32.toUInt32 31)).toInt32) &&& 1431655765)) >>> (Int32.toUInt32 2 &&& Int32.toUInt32 31)).toInt32) &&& 858993459)) >>> (Int32.toUInt32 4 &&& Int32.toUInt32 31)).toInt32)) &&& 252645135) >>> (Int32.toUInt32 8 &&& Int32.toUInt32 31)).toInt32))) (pc := 41) d_in_bitCount_41 rfl ?_
  refine ev_iload_n (x := ((((((x0 - (((Int32.toUInt32 x0 >>> (Int32.toUInt32 1 &&& Int32.toUInt32 31)).toInt32) &&& 1431655765)) &&& 858993459) + (((Int32.toUInt32 (x0 - (((Int32.toUInt32 x0 >>> (Int32.toUInt32 1 &&& Int32.toUInt32 31)).toInt32) &&& 1431655765)) >>> (Int32.toUInt32 2 &&& Int32.toUInt32 31)).toInt32) &&& 858993459)) + ((Int32.toUInt32 (((x0 - (((Int32.toUInt32 x0 >>> (Int32.toUInt32 1 &&& Int32.toUInt32 31)).toInt32) &&& 1431655765)) &&& 858993459) + (((Int32.toUInt32 (x0 - (((Int32.toUInt32 x0 >>> (Int32.toUInt32 1 &&& Int32.toUInt32 31)).toInt32) &&& 1431655765)) >>> (Int32.toUInt32 2 &&& Int32.toUInt32 31)).toInt32) &&& 858993459)) >>> (Int32.toUInt32 4 &&& Int32.toUInt32 31)).toInt32)) &&& 252645135) + ((Int32.toUInt32 (((((x0 - (((Int32.toUInt32 x0 >>> (Int32.toUInt32 1 &&& Int32.toUInt32 31)).toInt32) &&& 1431655765)) &&& 858993459) + (((Int32.toUInt32 (x0 - (((Int32.toUInt32 x0 >>> (Int32.toUInt32 1 &&& Int32.toUInt32 31)).toInt32) &&& 1431655765)) >>> (Int32.toUInt32 2 &&& Int32.toUInt32 31)).toInt32) &&& 858993459)) + ((Int32.toUInt32 (((x0 - (((Int32.toUInt32 x0 >>> (Int32.toUInt32 1 &&& Int32.toUInt32 31)).toInt32) &&& 1431655765)) &&& 858993459) + (((Int32.toUInt32 (x0 - (((Int32.toUInt32 x0 >>> (Int32.toUInt32 1 &&& Int32.toUInt32 31)).toInt32) &&& 1431655765)) >>> (Int32.toUInt32 2 &&& Int32.toUInt32 31)).toInt32) &&& 858993459)) >>> (Int32.toUInt32 4 &&& Int32.toUInt32 31)).toInt32)) &&& 252645135) >>> (Int32.toUInt32 8 &&& Int32.toUInt32 31)).toInt32))) (pc := 42) d_in_bitCount_42 rfl ?_
  refine ev_bipush (v := 16) (pc := 43) d_in_bitCount_43 kc_b_16 ?_
  refine ev_iushr (pc := 45) d_in_bitCount_45 ?_
  refine ev_iadd (pc := 46) d_in_bitCount_46 ?_
  refine ev_istore_n (L2 := [(0, .int (((((((x0 - (((Int32.toUInt32 x0 >>> (Int32.toUInt32 1 &&& Int32.toUInt32 31)).toInt32) &&& 1431655765)) &&& 858993459) + (((Int32.toUInt32 (x0 - (((Int32.toUInt32 x0 >>> (Int32.toUInt32 1 &&& Int32.toUInt32 31)).toInt32) &&& 1431655765)) >>> (Int32.toUInt32 2 &&& Int32.toUInt32 31)).toInt32) &&& 858993459)) + ((Int32.toUInt32 (((x0 - (((Int32.toUInt32 x0 >>> (Int32.toUInt32 1 &&& Int32.toUInt32 31)).toInt32) &&& 1431655765)) &&& 858993459) + (((Int32.toUInt32 (x0 - (((Int32.toUInt32 x0 >>> (Int32.toUInt32 1 &&& Int32.toUInt32 31)).toInt32) &&& 1431655765)) >>> (Int32.toUInt32 2 &&& Int32.toUInt32 31)).toInt32) &&& 858993459)) >>> (Int32.toUInt32 4 &&& Int32.toUInt32 31)).toInt32)) &&& 252645135) + ((Int32.toUInt32 (((((x0 - (((Int32.toUInt32 x0 >>> (Int32.toUInt32 1 &&& Int32.toUInt32 31)).toInt32) &&& 1431655765)) &&& 858993459) + (((Int32.toUInt32 (x0 - (((Int32.toUInt32 x0 >>> (Int32.toUInt32 1 &&& Int32.toUInt32 31)).toInt32) &&& 1431655765)) >>> (Int32.toUInt32 2 &&& Int32.toUInt32 31)).toInt32) &&& 858993459)) + ((Int32.toUInt32 (((x0 - (((Int32.toUInt32 x0 >>> (Int32.toUInt32 1 &&& Int32.toUInt32 31)).toInt32) &&& 1431655765)) &&& 858993459) + (((Int32.toUInt32 (x0 - (((Int32.toUInt32 x0 >>> (Int32.toUInt32 1 &&& Int32.toUInt32 31)).toInt32) &&& 1431655765)) >>> (Int32.toUInt32 2 &&& Int32.toUInt32 31)).toInt32) &&& 858993459)) >>> (Int32.toUInt32 4 &&& Int32.toUInt32 31)).toInt32)) &&& 252645135) >>> (Int32.toUInt32 8 &&& Int32.toUInt32 31)).toInt32)) + ((Int32.toUInt32 ((((((x0 - (((Int32.toUInt32 x0 >>> (Int32.toUInt32 1 &&& Int32.toUInt32 31)).toInt32) &&& 1431655765)) &&& 858993459) + (((Int32.toUInt32 (x0 - (((Int32.toUInt32 x0 >>> (Int32.toUInt32 1 &&& Int32.toUInt32 31)).toInt32) &&& 1431655765)) >>> (Int32.toUInt32 2 &&& Int32.toUInt32 31)).toInt32) &&& 858993459)) + ((Int32.toUInt32 (((x0 - (((Int32.toUInt32 x0 >>> (Int32.toUInt32 1 &&& Int32.toUInt32 31)).toInt32) &&& 1431655765)) &&& 858993459) + (((Int32.toUInt32 (x0 - (((Int32.toUInt32 x0 >>> (Int32.toUInt32 1 &&& Int32.toUInt32 31)).toInt32) &&& 1431655765)) >>> (Int32.toUInt32 2 &&& Int32.toUInt32 31)).toInt32) &&& 858993459)) >>> (Int32.toUInt32 4 &&& Int32.toUInt32 31)).toInt32)) &&& 252645135) + ((Int32.toUInt32 (((((x0 - (((Int32.toUInt32 x0 >>> (Int32.toUInt32 1 &&& Int32.toUInt32 31)).toInt32) &&& 1431655765)) &&& 858993459) + (((Int32.toUInt32 (x0 - (((Int32.toUInt32 x0 >>> (Int32.toUInt32 1 &&& Int32.toUInt32 31)).toInt32) &&& 1431655765)) >>> (Int32.toUInt32 2 &&& Int32.toUInt32 31)).toInt32) &&& 858993459)) + ((Int32.toUInt32 (((x0 - (((Int32.toUInt32 x0 >>> (Int32.toUInt32 1 &&& Int32.toUInt32 31)).toInt32) &&& 1431655765)) &&& 858993459) + (((Int32.toUInt32 (x0 - (((Int32.toUInt32 x0 >>> (Int32.toUInt32 1 &&& Int32.toUInt32 31)).toInt32) &&& 1431655765)) >>> (Int32.toUInt32 2 &&& Int32.toUInt32 31)).toInt32) &&& 858993459)) >>> (Int32.toUInt32 4 &&& Int32.toUInt32 31)).toInt32)) &&& 252645135) >>> (Int32.toUInt32 8 &&& Int32.toUInt32 31)).toInt32)) >>> (Int32.toUInt32 16 &&& Int32.toUInt32 31)).toInt32)))]) (pc := 47) d_in_bitCount_47 rfl (Nat.le_of_ble_eq_true rfl) rfl ?_
  refine ev_iload_n (x := (((((((x0 - (((Int32.toUInt32 x0 >>> (Int32.toUInt32 1 &&& Int32.toUInt32 31)).toInt32) &&& 1431655765)) &&& 858993459) + (((Int32.toUInt32 (x0 - (((Int32.toUInt32 x0 >>> (Int32.toUInt32 1 &&& Int32.toUInt32 31)).toInt32) &&& 1431655765)) >>> (Int32.toUInt32 2 &&& Int32.toUInt32 31)).toInt32) &&& 858993459)) + ((Int32.toUInt32 (((x0 - (((Int32.toUInt32 x0 >>> (Int32.toUInt32 1 &&& Int32.toUInt32 31)).toInt32) &&& 1431655765)) &&& 858993459) + (((Int32.toUInt32 (x0 - (((Int32.toUInt32 x0 >>> (Int32.toUInt32 1 &&& Int32.toUInt32 31)).toInt32) &&& 1431655765)) >>> (Int32.toUInt32 2 &&& Int32.toUInt32 31)).toInt32) &&& 858993459)) >>> (Int32.toUInt32 4 &&& Int32.toUInt32 31)).toInt32)) &&& 252645135) + ((Int32.toUInt32 (((((x0 - (((Int32.toUInt32 x0 >>> (Int32.toUInt32 1 &&& Int32.toUInt32 31)).toInt32) &&& 1431655765)) &&& 858993459) + (((Int32.toUInt32 (x0 - (((Int32.toUInt32 x0 >>> (Int32.toUInt32 1 &&& Int32.toUInt32 31)).toInt32) &&& 1431655765)) >>> (Int32.toUInt32 2 &&& Int32.toUInt32 31)).toInt32) &&& 858993459)) + ((Int32.toUInt32 (((x0 - (((Int32.toUInt32 x0 >>> (Int32.toUInt32 1 &&& Int32.toUInt32 31)).toInt32) &&& 1431655765)) &&& 858993459) + (((Int32.toUInt32 (x0 - (((Int32.toUInt32 x0 >>> (Int32.toUInt32 1 &&& Int32.toUInt32 31)).toInt32) &&& 1431655765)) >>> (Int32.toUInt32 2 &&& Int32.toUInt32 31)).toInt32) &&& 858993459)) >>> (Int32.toUInt32 4 &&& Int32.toUInt32 31)).toInt32)) &&& 252645135) >>> (Int32.toUInt32 8 &&& Int32.toUInt32 31)).toInt32)) + ((Int32.toUInt32 ((((((x0 - (((Int32.toUInt32 x0 >>> (Int32.toUInt32 1 &&& Int32.toUInt32 31)).toInt32) &&& 1431655765)) &&& 858993459) + (((Int32.toUInt32 (x0 - (((Int32.toUInt32 x0 >>> (Int32.toUInt32 1 &&& Int32.toUInt32 31)).toInt32) &&& 1431655765)) >>> (Int32.toUInt32 2 &&& Int32.toUInt32 31)).toInt32) &&& 858993459)) + ((Int32.toUInt32 (((x0 - (((Int32.toUInt32 x0 >>> (Int32.toUInt32 1 &&& Int32.toUInt32 31)).toInt32) &&& 1431655765)) &&& 858993459) + (((Int32.toUInt32 (x0 - (((Int32.toUInt32 x0 >>> (Int32.toUInt32 1 &&& Int32.toUInt32 31)).toInt32) &&& 1431655765)) >>> (Int32.toUInt32 2 &&& Int32.toUInt32 31)).toInt32) &&& 858993459)) >>> (Int32.toUInt32 4 &&& Int32.toUInt32 31)).toInt32)) &&& 252645135) + ((Int32.toUInt32 (((((x0 - (((Int32.toUInt32 x0 >>> (Int32.toUInt32 1 &&& Int32.toUInt32 31)).toInt32) &&& 1431655765)) &&& 858993459) + (((Int32.toUInt32 (x0 - (((Int32.toUInt32 x0 >>> (Int32.toUInt32 1 &&& Int32.toUInt32 31)).toInt32) &&& 1431655765)) >>> (Int32.toUInt32 2 &&& Int32.toUInt32 31)).toInt32) &&& 858993459)) + ((Int32.toUInt32 (((x0 - (((Int32.toUInt32 x0 >>> (Int32.toUInt32 1 &&& Int32.toUInt32 31)).toInt32) &&& 1431655765)) &&& 858993459) + (((Int32.toUInt32 (x0 - (((Int32.toUInt32 x0 >>> (Int32.toUInt32 1 &&& Int32.toUInt32 31)).toInt32) &&& 1431655765)) >>> (Int32.toUInt32 2 &&& Int32.toUInt32 31)).toInt32) &&& 858993459)) >>> (Int32.toUInt32 4 &&& Int32.toUInt32 31)).toInt32)) &&& 252645135) >>> (Int32.toUInt32 8 &&& Int32.toUInt32 31)).toInt32)) >>> (Int32.toUInt32 16 &&& Int32.toUInt32 31)).toInt32))) (pc := 48) d_in_bitCount_48 rfl ?_
  refine ev_bipush (v := 63) (pc := 49) d_in_bitCount_49 kc_b_63 ?_
  refine ev_iand (pc := 51) d_in_bitCount_51 ?_
  exact ev_iret (pc := 52) ⟨Nat.le_of_ble_eq_true rfl, Nat.le_of_ble_eq_true rfl⟩ d_in_bitCount_52 rfl (vp_nar_int _) hh
theorem b_ar_fill_0 {E : gp_E} {S : gp_S} {X : gp_H} {Q : Option Value → gp_H → Prop} {a0 n0 : Nat} {x1 : Int32} (hX : Lay S X) (ha0 : gp_at X a0 (13, n0)) (hh : Ev E m_ar_fill 5 [(0, .ref a0), (1, .int x1), (2, .int 0), (3, .int (Int32.ofNat n0))] [] X (0, 0) Q) : Ev E m_ar_fill 0 [(0, .ref a0), (1, .int x1)] [] X (0, 0) Q := by
  refine ev_iconst (v := 0) (pc := 0) d_ar_fill_0 kc_i_0 ?_
  refine ev_istore_n (L2 := [(0, .ref a0), (1, .int x1), (2, .int 0)]) (pc := 1) d_ar_fill_1 rfl (Nat.le_of_ble_eq_true rfl) rfl ?_
  refine ev_aload_n (x := a0) (pc := 2) d_ar_fill_2 rfl ?_
  refine ev_alen (t := 0) (pc := 3) (by decide) d_ar_fill_3 ha0 rfl ?_
  refine ev_istore_n (L2 := [(0, .ref a0), (1, .int x1), (2, .int 0), (3, .int (Int32.ofNat n0))]) (pc := 4) d_ar_fill_4 rfl (Nat.le_of_ble_eq_true rfl) rfl ?_
  exact hh
theorem b_ar_fill_5 {E : gp_E} {S : gp_S} {X : gp_H} {Q : Option Value → gp_H → Prop} {a0 na0 : Nat} {x1 : Int32} {x2 : Int32} {x3 : Int32} (hX : Lay S X) (ha0 : gp_at X a0 (13, na0)) (hh : ((x3 ≤ x2 → Q none X) ∧ (¬ x3 ≤ x2 → (vp_in x2 na0 ∧ Ev E m_ar_fill 5 [(0, .ref a0), (1, .int x1), (2, .int (x2 + 1)), (3, .int x3)] [] (gp_sI X a0 (Int32.toNatClampNeg x2) x1) (0, 0) Q)))) : Ev E m_ar_fill 5 [(0, .ref a0), (1, .int x1), (2, .int x2), (3, .int x3)] [] X (0, 0) Q := by
  refine ev_iload_n (x := x2) (pc := 5) d_ar_fill_5 rfl ?_
  refine ev_iload_n (x := x3) (pc := 6) d_ar_fill_6 rfl ?_
  refine ev_icmp_ge (pc := 7) (tgt := 20) d_ar_fill_7 (by decide) (fun c_1 => ?_) (fun c_1 => ?_)
  · have h_2 := hh.1 c_1
    exact ev_ret (pc := 20) ⟨Nat.le_of_ble_eq_true rfl, Nat.le_of_ble_eq_true rfl⟩ d_ar_fill_20 rfl h_2
  · have h_3 := hh.2 c_1
    refine ev_aload_n (x := a0) (pc := 10) d_ar_fill_10 rfl ?_
    refine ev_iload_n (x := x2) (pc := 11) d_ar_fill_11 rfl ?_
    refine ev_iload_n (x := x1) (pc := 12) d_ar_fill_12 rfl ?_
    refine ev_iast (pc := 13) d_ar_fill_13 ha0 h_3.1 ?_
    refine ev_iinc (v := (x2 + 1)) (L2 := [(0, .ref a0), (1, .int x1), (2, .int (x2 + 1)), (3, .int x3)]) (pc := 14) d_ar_fill_14 rfl (by rw [kc_i_1]) rfl (Nat.le_of_ble_eq_true rfl) rfl ?_
    refine ev_goto (pc := 17) (tgt := 5) d_ar_fill_17 (by decide) ?_
    exact h_3.2
