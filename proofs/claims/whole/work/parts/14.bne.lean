theorem b_ne_addPipe_0 {E : gp_E} {S : gp_S} {X : gp_H} {Q : Option Value → gp_H → Prop} {x1 : Int32} {x2 : Int32} {x3 : Int32} (hX : Lay S X)  (hh : (vp_in (gI X 1 1) 20 ∧ (narrow .boolean (.int x3) = .int x3 ∧ (vp_in x1 12 ∧ (vp_in x2 12 ∧ Q (some (.int (gI X 1 1))) (gp_sI (gp_sI (gp_sI (gp_sI (gp_sI (gp_sI (gp_sI (gp_sI (gp_sI X 2 (Int32.toNatClampNeg (gI X 1 1)) x1) 3 (Int32.toNatClampNeg (gI X 1 1)) x2) 4 (Int32.toNatClampNeg (gI X 1 1)) x3) 5 (Int32.toNatClampNeg (gI X 1 1)) 1) 6 (Int32.toNatClampNeg x1) ((gI X 6 (Int32.toNatClampNeg x1)) ||| ((1 : Int32) <<< (x2 &&& 31)))) 6 (Int32.toNatClampNeg x2) ((gI (gp_sI (gp_sI (gp_sI (gp_sI (gp_sI X 2 (Int32.toNatClampNeg (gI X 1 1)) x1) 3 (Int32.toNatClampNeg (gI X 1 1)) x2) 4 (Int32.toNatClampNeg (gI X 1 1)) x3) 5 (Int32.toNatClampNeg (gI X 1 1)) 1) 6 (Int32.toNatClampNeg x1) ((gI X 6 (Int32.toNatClampNeg x1)) ||| ((1 : Int32) <<< (x2 &&& 31)))) 6 (Int32.toNatClampNeg x2)) ||| ((1 : Int32) <<< (x1 &&& 31)))) 7 (Int32.toNatClampNeg x1) ((gI X 7 (Int32.toNatClampNeg x1)) ||| ((1 : Int32) <<< (x2 &&& 31)))) 7 (Int32.toNatClampNeg x2) ((gI (gp_sI (gp_sI (gp_sI (gp_sI (gp_sI (gp_sI (gp_sI X 2 (Int32.toNatClampNeg (gI X 1 1)) x1) 3 (Int32.toNatClampNeg (gI X 1 1)) x2) 4 (Int32.toNatClampNeg (gI X 1 1)) x3) 5 (Int32.toNatClampNeg (gI X 1 1)) 1) 6 (Int32.toNatClampNeg x1) ((gI X 6 (Int32.toNatClampNeg x1)) ||| ((1 : Int32) <<< (x2 &&& 31)))) 6 (Int32.toNatClampNeg x2) ((gI (gp_sI (gp_sI (gp_sI (gp_sI (gp_sI X 2 (Int32.toNatClampNeg (gI X 1 1)) x1) 3 (Int32.toNatClampNeg (gI X 1 1)) x2) 4 (Int32.toNatClampNeg (gI X 1 1)) x3) 5 (Int32.toNatClampNeg (gI X 1 1)) 1) 6 (Int32.toNatClampNeg x1) ((gI X 6 (Int32.toNatClampNeg x1)) ||| ((1 : Int32) <<< (x2 &&& 31)))) 6 (Int32.toNatClampNeg x2)) ||| ((1 : Int32) <<< (x1 &&& 31)))) 7 (Int32.toNatClampNeg x1) ((gI X 7 (Int32.toNatClampNeg x1)) ||| ((1 : Int32) <<< (x2 &&& 31)))) 7 (Int32.toNatClampNeg x2)) ||| ((1 : Int32) <<< (x1 &&& 31)))) 1 1 ((gI X 1 1) + 1))))))) : Ev E m_ne_addPipe 0 [(0, .ref 1), (1, .int x1), (2, .int x2), (3, .int x3)] [] X (0, 0) Q := by
  refine ev_aload_n (x := 1) (pc := 0) d_ne_addPipe_0 rfl ?_
  refine ev_getR (pc := 1) d_ne_addPipe_1 f_ne_9 (ly_at hX 1 rfl) gg_5 rfl (ly_rf hX 1 2 rfl) ?_
  refine ev_aload_n (x := 1) (pc := 4) d_ne_addPipe_4 rfl ?_
  refine ev_getJ (v := (gI X 1 1)) (pc := 5) d_ne_addPipe_5 f_ne_54 (ly_at hX 1 rfl) gg_5 rfl rfl ?_
  refine ev_iload_n (x := x1) (pc := 8) d_ne_addPipe_8 rfl ?_
  refine ev_iast (pc := 9) d_ne_addPipe_9 (ly_at hX 2 rfl) hh.1 ?_
  refine ev_aload_n (x := 1) (pc := 10) d_ne_addPipe_10 rfl ?_
  refine ev_getR (pc := 11) d_ne_addPipe_11 f_ne_15 (ly_at (ly_sI hX) 1 rfl) gg_5 rfl (ly_rf (ly_sI hX) 1 3 rfl) ?_
  refine ev_aload_n (x := 1) (pc := 14) d_ne_addPipe_14 rfl ?_
  refine ev_getJ (v := (gI X 1 1)) (pc := 15) d_ne_addPipe_15 f_ne_54 (ly_at (ly_sI hX) 1 rfl) gg_5 rfl rfl ?_
  refine ev_iload_n (x := x2) (pc := 18) d_ne_addPipe_18 rfl ?_
  refine ev_iast (pc := 19) d_ne_addPipe_19 (ly_at (ly_sI hX) 3 rfl) hh.1 ?_
  refine ev_aload_n (x := 1) (pc := 20) d_ne_addPipe_20 rfl ?_
  refine ev_getR (pc := 21) d_ne_addPipe_21 f_ne_18 (ly_at (ly_sI (ly_sI hX)) 1 rfl) gg_5 rfl (ly_rf (ly_sI (ly_sI hX)) 1 4 rfl) ?_
  refine ev_aload_n (x := 1) (pc := 24) d_ne_addPipe_24 rfl ?_
  refine ev_getJ (v := (gI X 1 1)) (pc := 25) d_ne_addPipe_25 f_ne_54 (ly_at (ly_sI (ly_sI hX)) 1 rfl) gg_5 rfl rfl ?_
  refine ev_iload_n (x := x3) (pc := 28) d_ne_addPipe_28 rfl ?_
  refine ev_zast (pc := 29) d_ne_addPipe_29 (ly_at (ly_sI (ly_sI hX)) 4 rfl) hh.1 hh.2.1 ?_
  refine ev_aload_n (x := 1) (pc := 30) d_ne_addPipe_30 rfl ?_
  refine ev_getR (pc := 31) d_ne_addPipe_31 f_ne_22 (ly_at (ly_sI (ly_sI (ly_sI hX))) 1 rfl) gg_5 rfl (ly_rf (ly_sI (ly_sI (ly_sI hX))) 1 5 rfl) ?_
  refine ev_aload_n (x := 1) (pc := 34) d_ne_addPipe_34 rfl ?_
  refine ev_getJ (v := (gI X 1 1)) (pc := 35) d_ne_addPipe_35 f_ne_54 (ly_at (ly_sI (ly_sI (ly_sI hX))) 1 rfl) gg_5 rfl rfl ?_
  refine ev_iconst (v := 1) (pc := 38) d_ne_addPipe_38 kc_i_1 ?_
  refine ev_zast (pc := 39) d_ne_addPipe_39 (ly_at (ly_sI (ly_sI (ly_sI hX))) 5 rfl) hh.1 nb_1 ?_
  refine ev_aload_n (x := 1) (pc := 40) d_ne_addPipe_40 rfl ?_
  refine ev_getR (pc := 41) d_ne_addPipe_41 f_ne_25 (ly_at (ly_sI (ly_sI (ly_sI (ly_sI hX)))) 1 rfl) gg_5 rfl (ly_rf (ly_sI (ly_sI (ly_sI (ly_sI hX)))) 1 6 rfl) ?_
  refine ev_iload_n (x := x1) (pc := 44) d_ne_addPipe_44 rfl ?_
  refine ev_dup2 (pc := 45) d_ne_addPipe_45 rfl rfl ?_
  refine ev_ialdJ (v := (gI X 6 (Int32.toNatClampNeg x1))) (pc := 46) d_ne_addPipe_46 (ly_at (ly_sI (ly_sI (ly_sI (ly_sI hX)))) 6 rfl) hh.2.2.1 rfl ?_
  refine ev_iconst (v := 1) (pc := 47) d_ne_addPipe_47 kc_i_1 ?_
  refine ev_iload_n (x := x2) (pc := 48) d_ne_addPipe_48 rfl ?_
  refine ev_ishl (pc := 49) d_ne_addPipe_49 ?_
  refine ev_ior (pc := 50) d_ne_addPipe_50 ?_
  refine ev_iast (pc := 51) d_ne_addPipe_51 (ly_at (ly_sI (ly_sI (ly_sI (ly_sI hX)))) 6 rfl) hh.2.2.1 ?_
  refine ev_aload_n (x := 1) (pc := 52) d_ne_addPipe_52 rfl ?_
  refine ev_getR (pc := 53) d_ne_addPipe_53 f_ne_25 (ly_at (ly_sI (ly_sI (ly_sI (ly_sI (ly_sI hX))))) 1 rfl) gg_5 rfl (ly_rf (ly_sI (ly_sI (ly_sI (ly_sI (ly_sI hX))))) 1 6 rfl) ?_
  refine ev_iload_n (x := x2) (pc := 56) d_ne_addPipe_56 rfl ?_
  refine ev_dup2 (pc := 57) d_ne_addPipe_57 rfl rfl ?_
  refine ev_ialdJ (v := (gI (gp_sI (gp_sI (gp_sI (gp_sI (gp_sI X 2 (Int32.toNatClampNeg (gI X 1 1)) x1) 3 (Int32.toNatClampNeg (gI X 1 1)) x2) 4 (Int32.toNatClampNeg (gI X 1 1)) x3) 5 (Int32.toNatClampNeg (gI X 1 1)) 1) 6 (Int32.toNatClampNeg x1) ((gI X 6 (Int32.toNatClampNeg x1)) ||| ((1 : Int32) <<< (x2 &&& 31)))) 6 (Int32.toNatClampNeg x2))) (pc := 58) d_ne_addPipe_58 (ly_at (ly_sI (ly_sI (ly_sI (ly_sI (ly_sI hX))))) 6 rfl) hh.2.2.2.1 rfl ?_
  refine ev_iconst (v := 1) (pc := 59) d_ne_addPipe_59 kc_i_1 ?_
  refine ev_iload_n (x := x1) (pc := 60) d_ne_addPipe_60 rfl ?_
  refine ev_ishl (pc := 61) d_ne_addPipe_61 ?_
  refine ev_ior (pc := 62) d_ne_addPipe_62 ?_
  refine ev_iast (pc := 63) d_ne_addPipe_63 (ly_at (ly_sI (ly_sI (ly_sI (ly_sI (ly_sI hX))))) 6 rfl) hh.2.2.2.1 ?_
  refine ev_aload_n (x := 1) (pc := 64) d_ne_addPipe_64 rfl ?_
  refine ev_getR (pc := 65) d_ne_addPipe_65 f_ne_28 (ly_at (ly_sI (ly_sI (ly_sI (ly_sI (ly_sI (ly_sI hX)))))) 1 rfl) gg_5 rfl (ly_rf (ly_sI (ly_sI (ly_sI (ly_sI (ly_sI (ly_sI hX)))))) 1 7 rfl) ?_
  refine ev_iload_n (x := x1) (pc := 68) d_ne_addPipe_68 rfl ?_
  refine ev_dup2 (pc := 69) d_ne_addPipe_69 rfl rfl ?_
  refine ev_ialdJ (v := (gI X 7 (Int32.toNatClampNeg x1))) (pc := 70) d_ne_addPipe_70 (ly_at (ly_sI (ly_sI (ly_sI (ly_sI (ly_sI (ly_sI hX)))))) 7 rfl) hh.2.2.1 rfl ?_
  refine ev_iconst (v := 1) (pc := 71) d_ne_addPipe_71 kc_i_1 ?_
  refine ev_iload_n (x := x2) (pc := 72) d_ne_addPipe_72 rfl ?_
  refine ev_ishl (pc := 73) d_ne_addPipe_73 ?_
  refine ev_ior (pc := 74) d_ne_addPipe_74 ?_
  refine ev_iast (pc := 75) d_ne_addPipe_75 (ly_at (ly_sI (ly_sI (ly_sI (ly_sI (ly_sI (ly_sI hX)))))) 7 rfl) hh.2.2.1 ?_
  refine ev_aload_n (x := 1) (pc := 76) d_ne_addPipe_76 rfl ?_
  refine ev_getR (pc := 77) d_ne_addPipe_77 f_ne_28 (ly_at (ly_sI (ly_sI (ly_sI (ly_sI (ly_sI (ly_sI (ly_sI hX))))))) 1 rfl) gg_5 rfl (ly_rf (ly_sI (ly_sI (ly_sI (ly_sI (ly_sI (ly_sI (ly_sI hX))))))) 1 7 rfl) ?_
  refine ev_iload_n (x := x2) (pc := 80) d_ne_addPipe_80 rfl ?_
  refine ev_dup2 (pc := 81) d_ne_addPipe_81 rfl rfl ?_
  refine ev_ialdJ (v := (gI (gp_sI (gp_sI (gp_sI (gp_sI (gp_sI (gp_sI (gp_sI X 2 (Int32.toNatClampNeg (gI X 1 1)) x1) 3 (Int32.toNatClampNeg (gI X 1 1)) x2) 4 (Int32.toNatClampNeg (gI X 1 1)) x3) 5 (Int32.toNatClampNeg (gI X 1 1)) 1) 6 (Int32.toNatClampNeg x1) ((gI X 6 (Int32.toNatClampNeg x1)) ||| ((1 : Int32) <<< (x2 &&& 31)))) 6 (Int32.toNatClampNeg x2) ((gI (gp_sI (gp_sI (gp_sI (gp_sI (gp_sI X 2 (Int32.toNatClampNeg (gI X 1 1)) x1) 3 (Int32.toNatClampNeg (gI X 1 1)) x2) 4 (Int32.toNatClampNeg (gI X 1 1)) x3) 5 (Int32.toNatClampNeg (gI X 1 1)) 1) 6 (Int32.toNatClampNeg x1) ((gI X 6 (Int32.toNatClampNeg x1)) ||| ((1 : Int32) <<< (x2 &&& 31)))) 6 (Int32.toNatClampNeg x2)) ||| ((1 : Int32) <<< (x1 &&& 31)))) 7 (Int32.toNatClampNeg x1) ((gI X 7 (Int32.toNatClampNeg x1)) ||| ((1 : Int32) <<< (x2 &&& 31)))) 7 (Int32.toNatClampNeg x2))) (pc := 82) d_ne_addPipe_82 (ly_at (ly_sI (ly_sI (ly_sI (ly_sI (ly_sI (ly_sI (ly_sI hX))))))) 7 rfl) hh.2.2.2.1 rfl ?_
  refine ev_iconst (v := 1) (pc := 83) d_ne_addPipe_83 kc_i_1 ?_
  refine ev_iload_n (x := x1) (pc := 84) d_ne_addPipe_84 rfl ?_
  refine ev_ishl (pc := 85) d_ne_addPipe_85 ?_
  refine ev_ior (pc := 86) d_ne_addPipe_86 ?_
  refine ev_iast (pc := 87) d_ne_addPipe_87 (ly_at (ly_sI (ly_sI (ly_sI (ly_sI (ly_sI (ly_sI (ly_sI hX))))))) 7 rfl) hh.2.2.2.1 ?_
  refine ev_aload_n (x := 1) (pc := 88) d_ne_addPipe_88 rfl ?_
  refine ev_dup (pc := 89) d_ne_addPipe_89 rfl ?_
  refine ev_getJ (v := (gI X 1 1)) (pc := 90) d_ne_addPipe_90 f_ne_54 (ly_at (ly_sI (ly_sI (ly_sI (ly_sI (ly_sI (ly_sI (ly_sI (ly_sI hX)))))))) 1 rfl) gg_5 rfl rfl ?_
  refine ev_dup_x1 (pc := 93) d_ne_addPipe_93 rfl rfl ?_
  refine ev_iconst (v := 1) (pc := 94) d_ne_addPipe_94 kc_i_1 ?_
  refine ev_iadd (pc := 95) d_ne_addPipe_95 ?_
  refine ev_putI (pc := 96) d_ne_addPipe_96 f_ne_54 (ly_at (ly_sI (ly_sI (ly_sI (ly_sI (ly_sI (ly_sI (ly_sI (ly_sI hX)))))))) 1 rfl) gg_5 rfl (Or.inl rfl) (vp_nar_int _) rfl ?_
  exact ev_iret (pc := 99) ⟨Nat.le_of_ble_eq_true rfl, Nat.le_of_ble_eq_true rfl⟩ d_ne_addPipe_99 rfl (vp_nar_int _) hh.2.2.2.2
theorem b_ne_joinOpen_0 {E : gp_E} {S : gp_S} {X : gp_H} {Q : Option Value → gp_H → Prop}  (hX : Lay S X)  (hh : (∃ Qz_1, Ev E m_ar_fill 0 [(0, .ref 7), (1, .int 0)] [] X (0, 0) Qz_1 ∧ ∀ r X_4, Qz_1 r X_4 → (r = none ∧ Lay S X_4 ∧ Ev E m_ne_joinOpen 10 [(0, .ref 1), (1, .int 0)] [] X_4 (0, 0) Q))) : Ev E m_ne_joinOpen 0 [(0, .ref 1)] [] X (0, 0) Q := by
  refine ev_aload_n (x := 1) (pc := 0) d_ne_joinOpen_0 rfl ?_
  refine ev_getR (pc := 1) d_ne_joinOpen_1 f_ne_28 (ly_at hX 1 rfl) gg_5 rfl (ly_rf hX 1 7 rfl) ?_
  refine ev_iconst (v := 0) (pc := 4) d_ne_joinOpen_4 kc_i_0 ?_
  obtain ⟨Qz_1, hc_2, hk_3⟩ := hh
  refine ev_callS (z := m_ar_fill) (as := [.ref 7, .int 0]) (rest := []) (pc := 5) d_ne_joinOpen_5 l_ne_60 i_ar_fill o_ar_fill rfl rfl (Nat.le_of_ble_eq_true rfl) rfl (Nat.le_of_ble_eq_true rfl) ⟨Nat.le_of_ble_eq_true rfl, Nat.le_of_ble_eq_true rfl⟩ hc_2 (fun r_5 X_4 hq_6 => ?_)
  obtain ⟨rfl, hX_8, h_7⟩ := hk_3 _ _ hq_6
  show Ev E m_ne_joinOpen 8 [(0, .ref 1)] [] X_4 (0, 0) Q
  refine ev_iconst (v := 0) (pc := 8) d_ne_joinOpen_8 kc_i_0 ?_
  refine ev_istore_n (L2 := [(0, .ref 1), (1, .int 0)]) (pc := 9) d_ne_joinOpen_9 rfl (Nat.le_of_ble_eq_true rfl) rfl ?_
  exact h_7
theorem b_ne_joinOpen_10 {E : gp_E} {S : gp_S} {X : gp_H} {Q : Option Value → gp_H → Prop} {x1 : Int32} (hX : Lay S X)  (hh : (((gI X 1 1) ≤ x1 → Q none X) ∧ (¬ (gI X 1 1) ≤ x1 → (vp_in x1 20 ∧ ((¬ (gI X 5 (Int32.toNatClampNeg x1)) = 0 → (vp_in (gI X 2 (Int32.toNatClampNeg x1)) 12 ∧ (vp_in (gI X 3 (Int32.toNatClampNeg x1)) 12 ∧ Ev E m_ne_joinOpen 10 [(0, .ref 1), (1, .int (x1 + 1))] [] (gp_sI (gp_sI X 7 (Int32.toNatClampNeg (gI X 2 (Int32.toNatClampNeg x1))) ((gI X 7 (Int32.toNatClampNeg (gI X 2 (Int32.toNatClampNeg x1)))) ||| ((1 : Int32) <<< ((gI X 3 (Int32.toNatClampNeg x1)) &&& 31)))) 7 (Int32.toNatClampNeg (gI X 3 (Int32.toNatClampNeg x1))) ((gI (gp_sI X 7 (Int32.toNatClampNeg (gI X 2 (Int32.toNatClampNeg x1))) ((gI X 7 (Int32.toNatClampNeg (gI X 2 (Int32.toNatClampNeg x1)))) ||| ((1 : Int32) <<< ((gI X 3 (Int32.toNatClampNeg x1)) &&& 31)))) 7 (Int32.toNatClampNeg (gI X 3 (Int32.toNatClampNeg x1)))) ||| ((1 : Int32) <<< ((gI X 2 (Int32.toNatClampNeg x1)) &&& 31)))) (0, 0) Q))) ∧ ((gI X 5 (Int32.toNatClampNeg x1)) = 0 → Ev E m_ne_joinOpen 10 [(0, .ref 1), (1, .int (x1 + 1))] [] X (0, 0) Q)))))) : Ev E m_ne_joinOpen 10 [(0, .ref 1), (1, .int x1)] [] X (0, 0) Q := by
  refine ev_iload_n (x := x1) (pc := 10) d_ne_joinOpen_10 rfl ?_
  refine ev_aload_n (x := 1) (pc := 11) d_ne_joinOpen_11 rfl ?_
  refine ev_getJ (v := (gI X 1 1)) (pc := 12) d_ne_joinOpen_12 f_ne_54 (ly_at hX 1 rfl) gg_5 rfl rfl ?_
  refine ev_icmp_ge (pc := 15) (tgt := 80) d_ne_joinOpen_15 (by decide) (fun c_1 => ?_) (fun c_1 => ?_)
  · have h_2 := hh.1 c_1
    exact ev_ret (pc := 80) ⟨Nat.le_of_ble_eq_true rfl, Nat.le_of_ble_eq_true rfl⟩ d_ne_joinOpen_80 rfl h_2
  · have h_3 := hh.2 c_1
    refine ev_aload_n (x := 1) (pc := 18) d_ne_joinOpen_18 rfl ?_
    refine ev_getR (pc := 19) d_ne_joinOpen_19 f_ne_22 (ly_at hX 1 rfl) gg_5 rfl (ly_rf hX 1 5 rfl) ?_
    refine ev_iload_n (x := x1) (pc := 22) d_ne_joinOpen_22 rfl ?_
    refine ev_zaldJ (v := (gI X 5 (Int32.toNatClampNeg x1))) (pc := 23) d_ne_joinOpen_23 (ly_at hX 5 rfl) h_3.1 rfl ?_
    refine ev_if_ne (pc := 24) (tgt := 30) d_ne_joinOpen_24 (by decide) (fun c_4 => ?_) (fun c_4 => ?_)
    · have h_5 := h_3.2.1 c_4
      refine ev_aload_n (x := 1) (pc := 30) d_ne_joinOpen_30 rfl ?_
      refine ev_getR (pc := 31) d_ne_joinOpen_31 f_ne_28 (ly_at hX 1 rfl) gg_5 rfl (ly_rf hX 1 7 rfl) ?_
      refine ev_aload_n (x := 1) (pc := 34) d_ne_joinOpen_34 rfl ?_
      refine ev_getR (pc := 35) d_ne_joinOpen_35 f_ne_9 (ly_at hX 1 rfl) gg_5 rfl (ly_rf hX 1 2 rfl) ?_
      refine ev_iload_n (x := x1) (pc := 38) d_ne_joinOpen_38 rfl ?_
      refine ev_ialdJ (v := (gI X 2 (Int32.toNatClampNeg x1))) (pc := 39) d_ne_joinOpen_39 (ly_at hX 2 rfl) h_3.1 rfl ?_
      refine ev_dup2 (pc := 40) d_ne_joinOpen_40 rfl rfl ?_
      refine ev_ialdJ (v := (gI X 7 (Int32.toNatClampNeg (gI X 2 (Int32.toNatClampNeg x1))))) (pc := 41) d_ne_joinOpen_41 (ly_at hX 7 rfl) h_5.1 rfl ?_
      refine ev_iconst (v := 1) (pc := 42) d_ne_joinOpen_42 kc_i_1 ?_
      refine ev_aload_n (x := 1) (pc := 43) d_ne_joinOpen_43 rfl ?_
      refine ev_getR (pc := 44) d_ne_joinOpen_44 f_ne_15 (ly_at hX 1 rfl) gg_5 rfl (ly_rf hX 1 3 rfl) ?_
      refine ev_iload_n (x := x1) (pc := 47) d_ne_joinOpen_47 rfl ?_
      refine ev_ialdJ (v := (gI X 3 (Int32.toNatClampNeg x1))) (pc := 48) d_ne_joinOpen_48 (ly_at hX 3 rfl) h_3.1 rfl ?_
      refine ev_ishl (pc := 49) d_ne_joinOpen_49 ?_
      refine ev_ior (pc := 50) d_ne_joinOpen_50 ?_
      refine ev_iast (pc := 51) d_ne_joinOpen_51 (ly_at hX 7 rfl) h_5.1 ?_
      refine ev_aload_n (x := 1) (pc := 52) d_ne_joinOpen_52 rfl ?_
      refine ev_getR (pc := 53) d_ne_joinOpen_53 f_ne_28 (ly_at (ly_sI hX) 1 rfl) gg_5 rfl (ly_rf (ly_sI hX) 1 7 rfl) ?_
      refine ev_aload_n (x := 1) (pc := 56) d_ne_joinOpen_56 rfl ?_
      refine ev_getR (pc := 57) d_ne_joinOpen_57 f_ne_15 (ly_at (ly_sI hX) 1 rfl) gg_5 rfl (ly_rf (ly_sI hX) 1 3 rfl) ?_
      refine ev_iload_n (x := x1) (pc := 60) d_ne_joinOpen_60 rfl ?_
      refine ev_ialdJ (v := (gI X 3 (Int32.toNatClampNeg x1))) (pc := 61) d_ne_joinOpen_61 (ly_at (ly_sI hX) 3 rfl) h_3.1 rfl ?_
      refine ev_dup2 (pc := 62) d_ne_joinOpen_62 rfl rfl ?_
      refine ev_ialdJ (v := (gI (gp_sI X 7 (Int32.toNatClampNeg (gI X 2 (Int32.toNatClampNeg x1))) ((gI X 7 (Int32.toNatClampNeg (gI X 2 (Int32.toNatClampNeg x1)))) ||| ((1 : Int32) <<< ((gI X 3 (Int32.toNatClampNeg x1)) &&& 31)))) 7 (Int32.toNatClampNeg (gI X 3 (Int32.toNatClampNeg x1))))) (pc := 63) d_ne_joinOpen_63 (ly_at (ly_sI hX) 7 rfl) h_5.2.1 rfl ?_
      refine ev_iconst (v := 1) (pc := 64) d_ne_joinOpen_64 kc_i_1 ?_
      refine ev_aload_n (x := 1) (pc := 65) d_ne_joinOpen_65 rfl ?_
      refine ev_getR (pc := 66) d_ne_joinOpen_66 f_ne_9 (ly_at (ly_sI hX) 1 rfl) gg_5 rfl (ly_rf (ly_sI hX) 1 2 rfl) ?_
      refine ev_iload_n (x := x1) (pc := 69) d_ne_joinOpen_69 rfl ?_
      refine ev_ialdJ (v := (gI X 2 (Int32.toNatClampNeg x1))) (pc := 70) d_ne_joinOpen_70 (ly_at (ly_sI hX) 2 rfl) h_3.1 rfl ?_
      refine ev_ishl (pc := 71) d_ne_joinOpen_71 ?_
      refine ev_ior (pc := 72) d_ne_joinOpen_72 ?_
      refine ev_iast (pc := 73) d_ne_joinOpen_73 (ly_at (ly_sI hX) 7 rfl) h_5.2.1 ?_
      refine ev_iinc (v := (x1 + 1)) (L2 := [(0, .ref 1), (1, .int (x1 + 1))]) (pc := 74) d_ne_joinOpen_74 rfl (by rw [kc_i_1]) rfl (Nat.le_of_ble_eq_true rfl) rfl ?_
      refine ev_goto (pc := 77) (tgt := 10) d_ne_joinOpen_77 (by decide) ?_
      exact h_5.2.2
    · have h_6 := h_3.2.2 c_4
      refine ev_goto (pc := 27) (tgt := 74) d_ne_joinOpen_27 (by decide) ?_
      refine ev_iinc (v := (x1 + 1)) (L2 := [(0, .ref 1), (1, .int (x1 + 1))]) (pc := 74) d_ne_joinOpen_74 rfl (by rw [kc_i_1]) rfl (Nat.le_of_ble_eq_true rfl) rfl ?_
      refine ev_goto (pc := 77) (tgt := 10) d_ne_joinOpen_77 (by decide) ?_
      exact h_6
theorem b_ne_addWork_0 {E : gp_E} {S : gp_S} {X : gp_H} {Q : Option Value → gp_H → Prop} {x1 : Int32} {x2 : Int32} {x3 : Int32} (hX : Lay S X)  (hh : (vp_in (gI X 1 9) 5 ∧ Q (some (.int (gI X 1 9))) (gp_sI (gp_sI (gp_sI (gp_sI (gp_sI X 8 (Int32.toNatClampNeg (gI X 1 9)) x1) 9 (Int32.toNatClampNeg (gI X 1 9)) x2) 10 (Int32.toNatClampNeg (gI X 1 9)) x3) 11 (Int32.toNatClampNeg (gI X 1 9)) 1) 1 9 ((gI X 1 9) + 1)))) : Ev E m_ne_addWork 0 [(0, .ref 1), (1, .int x1), (2, .int x2), (3, .int x3)] [] X (0, 0) Q := by
  refine ev_aload_n (x := 1) (pc := 0) d_ne_addWork_0 rfl ?_
  refine ev_getR (pc := 1) d_ne_addWork_1 f_ne_35 (ly_at hX 1 rfl) gg_5 rfl (ly_rf hX 1 10 rfl) ?_
  refine ev_aload_n (x := 1) (pc := 4) d_ne_addWork_4 rfl ?_
  refine ev_getJ (v := (gI X 1 9)) (pc := 5) d_ne_addWork_5 f_ne_57 (ly_at hX 1 rfl) gg_5 rfl rfl ?_
  refine ev_iload_n (x := x1) (pc := 8) d_ne_addWork_8 rfl ?_
  refine ev_iast (pc := 9) d_ne_addWork_9 (ly_at hX 8 rfl) hh.1 ?_
  refine ev_aload_n (x := 1) (pc := 10) d_ne_addWork_10 rfl ?_
  refine ev_getR (pc := 11) d_ne_addWork_11 f_ne_38 (ly_at (ly_sI hX) 1 rfl) gg_5 rfl (ly_rf (ly_sI hX) 1 11 rfl) ?_
  refine ev_aload_n (x := 1) (pc := 14) d_ne_addWork_14 rfl ?_
  refine ev_getJ (v := (gI X 1 9)) (pc := 15) d_ne_addWork_15 f_ne_57 (ly_at (ly_sI hX) 1 rfl) gg_5 rfl rfl ?_
  refine ev_iload_n (x := x2) (pc := 18) d_ne_addWork_18 rfl ?_
  refine ev_iast (pc := 19) d_ne_addWork_19 (ly_at (ly_sI hX) 9 rfl) hh.1 ?_
  refine ev_aload_n (x := 1) (pc := 20) d_ne_addWork_20 rfl ?_
  refine ev_getR (pc := 21) d_ne_addWork_21 f_ne_41 (ly_at (ly_sI (ly_sI hX)) 1 rfl) gg_5 rfl (ly_rf (ly_sI (ly_sI hX)) 1 12 rfl) ?_
  refine ev_aload_n (x := 1) (pc := 24) d_ne_addWork_24 rfl ?_
  refine ev_getJ (v := (gI X 1 9)) (pc := 25) d_ne_addWork_25 f_ne_57 (ly_at (ly_sI (ly_sI hX)) 1 rfl) gg_5 rfl rfl ?_
  refine ev_iload_n (x := x3) (pc := 28) d_ne_addWork_28 rfl ?_
  refine ev_iast (pc := 29) d_ne_addWork_29 (ly_at (ly_sI (ly_sI hX)) 10 rfl) hh.1 ?_
  refine ev_aload_n (x := 1) (pc := 30) d_ne_addWork_30 rfl ?_
  refine ev_getR (pc := 31) d_ne_addWork_31 f_ne_44 (ly_at (ly_sI (ly_sI (ly_sI hX))) 1 rfl) gg_5 rfl (ly_rf (ly_sI (ly_sI (ly_sI hX))) 1 13 rfl) ?_
  refine ev_aload_n (x := 1) (pc := 34) d_ne_addWork_34 rfl ?_
  refine ev_getJ (v := (gI X 1 9)) (pc := 35) d_ne_addWork_35 f_ne_57 (ly_at (ly_sI (ly_sI (ly_sI hX))) 1 rfl) gg_5 rfl rfl ?_
  refine ev_iconst (v := 1) (pc := 38) d_ne_addWork_38 kc_i_1 ?_
  refine ev_zast (pc := 39) d_ne_addWork_39 (ly_at (ly_sI (ly_sI (ly_sI hX))) 11 rfl) hh.1 nb_1 ?_
  refine ev_aload_n (x := 1) (pc := 40) d_ne_addWork_40 rfl ?_
  refine ev_dup (pc := 41) d_ne_addWork_41 rfl ?_
  refine ev_getJ (v := (gI X 1 9)) (pc := 42) d_ne_addWork_42 f_ne_57 (ly_at (ly_sI (ly_sI (ly_sI (ly_sI hX)))) 1 rfl) gg_5 rfl rfl ?_
  refine ev_dup_x1 (pc := 45) d_ne_addWork_45 rfl rfl ?_
  refine ev_iconst (v := 1) (pc := 46) d_ne_addWork_46 kc_i_1 ?_
  refine ev_iadd (pc := 47) d_ne_addWork_47 ?_
  refine ev_putI (pc := 48) d_ne_addWork_48 f_ne_57 (ly_at (ly_sI (ly_sI (ly_sI (ly_sI hX)))) 1 rfl) gg_5 rfl (Or.inl rfl) (vp_nar_int _) rfl ?_
  exact ev_iret (pc := 51) ⟨Nat.le_of_ble_eq_true rfl, Nat.le_of_ble_eq_true rfl⟩ d_ne_addWork_51 rfl (vp_nar_int _) hh.2
theorem b_ne_areaOf_0 {E : gp_E} {S : gp_S} {X : gp_H} {Q : Option Value → gp_H → Prop} {x1 : Int32} (hX : Lay S X)  (hh : (∃ Qz_1, Ev E m_ne_spread 0 [(0, .ref 1), (1, .int ((1 : Int32) <<< (x1 &&& 31))), (2, .int (((1 : Int32) <<< ((gI X 1 0) &&& 31)) - 1)), (3, .ref 7)] [] X (0, 0) Qz_1 ∧ ∀ r X_4, Qz_1 r X_4 → ∃ v_9 : Int32, r = some (.int v_9) ∧ Lay S X_4 ∧ Q (some (.int v_9)) X_4)) : Ev E m_ne_areaOf 0 [(0, .ref 1), (1, .int x1)] [] X (0, 0) Q := by
  refine ev_aload_n (x := 1) (pc := 0) d_ne_areaOf_0 rfl ?_
  refine ev_iconst (v := 1) (pc := 1) d_ne_areaOf_1 kc_i_1 ?_
  refine ev_iload_n (x := x1) (pc := 2) d_ne_areaOf_2 rfl ?_
  refine ev_ishl (pc := 3) d_ne_areaOf_3 ?_
  refine ev_aload_n (x := 1) (pc := 4) d_ne_areaOf_4 rfl ?_
  refine ev_callV (z := m_ne_allKnots) (as := []) (rest := [.int ((1 : Int32) <<< (x1 &&& 31)), .ref 1]) (pc := 5) d_ne_areaOf_5 (ly_at hX 1 rfl) lt13_5 rfl l_ne_70 i_ne_allKnots v_ne_allKnots o_ne_allKnots rfl rfl (Nat.le_of_ble_eq_true rfl) rfl (Nat.le_of_ble_eq_true rfl) ⟨Nat.le_of_ble_eq_true rfl, Nat.le_of_ble_eq_true rfl⟩ (s_ne_allKnots hX  ) (fun r X1 hq => ?_)
  obtain ⟨rfl, rfl⟩ := hq
  show Ev E m_ne_areaOf 8 [(0, .ref 1), (1, .int x1)] [.int (((1 : Int32) <<< ((gI X 1 0) &&& 31)) - 1), .int ((1 : Int32) <<< (x1 &&& 31)), .ref 1] X (0, 0) Q
  refine ev_aload_n (x := 1) (pc := 8) d_ne_areaOf_8 rfl ?_
  refine ev_getR (pc := 9) d_ne_areaOf_9 f_ne_28 (ly_at hX 1 rfl) gg_5 rfl (ly_rf hX 1 7 rfl) ?_
  obtain ⟨Qz_1, hc_2, hk_3⟩ := hh
  refine ev_callV (z := m_ne_spread) (as := [.int ((1 : Int32) <<< (x1 &&& 31)), .int (((1 : Int32) <<< ((gI X 1 0) &&& 31)) - 1), .ref 7]) (rest := []) (pc := 12) d_ne_areaOf_12 (ly_at hX 1 rfl) lt13_5 rfl l_ne_74 i_ne_spread v_ne_spread o_ne_spread rfl rfl (Nat.le_of_ble_eq_true rfl) rfl (Nat.le_of_ble_eq_true rfl) ⟨Nat.le_of_ble_eq_true rfl, Nat.le_of_ble_eq_true rfl⟩ hc_2 (fun r_5 X_4 hq_6 => ?_)
  obtain ⟨v_9, rfl, hX_8, h_7⟩ := hk_3 _ _ hq_6
  show Ev E m_ne_areaOf 15 [(0, .ref 1), (1, .int x1)] [.int v_9] X_4 (0, 0) Q
  exact ev_iret (pc := 15) ⟨Nat.le_of_ble_eq_true rfl, Nat.le_of_ble_eq_true rfl⟩ d_ne_areaOf_15 rfl (vp_nar_int _) h_7
theorem b_ne_spread_0 {E : gp_E} {S : gp_S} {X : gp_H} {Q : Option Value → gp_H → Prop} {x1 : Int32} {x2 : Int32} {a3 n3 : Nat} (hX : Lay S X) (ha3 : gp_at X a3 (13, n3)) (hh : Ev E m_ne_spread 12 [(0, .ref 1), (1, .int x1), (2, .int x2), (3, .ref a3), (4, .int (x1 &&& x2)), (5, .int (x1 &&& x2)), (6, .int 0)] [] X (0, 0) Q) : Ev E m_ne_spread 0 [(0, .ref 1), (1, .int x1), (2, .int x2), (3, .ref a3)] [] X (0, 0) Q := by
  refine ev_iload_n (x := x1) (pc := 0) d_ne_spread_0 rfl ?_
  refine ev_iload_n (x := x2) (pc := 1) d_ne_spread_1 rfl ?_
  refine ev_iand (pc := 2) d_ne_spread_2 ?_
  refine ev_istore (L2 := [(0, .ref 1), (1, .int x1), (2, .int x2), (3, .ref a3), (4, .int (x1 &&& x2))]) (pc := 3) d_ne_spread_3 rfl (Nat.le_of_ble_eq_true rfl) rfl ?_
  refine ev_iload (x := (x1 &&& x2)) (pc := 5) d_ne_spread_5 rfl ?_
  refine ev_istore (L2 := [(0, .ref 1), (1, .int x1), (2, .int x2), (3, .ref a3), (4, .int (x1 &&& x2)), (5, .int (x1 &&& x2))]) (pc := 7) d_ne_spread_7 rfl (Nat.le_of_ble_eq_true rfl) rfl ?_
  refine ev_iconst (v := 0) (pc := 9) d_ne_spread_9 kc_i_0 ?_
  refine ev_istore (L2 := [(0, .ref 1), (1, .int x1), (2, .int x2), (3, .ref a3), (4, .int (x1 &&& x2)), (5, .int (x1 &&& x2)), (6, .int 0)]) (pc := 10) d_ne_spread_10 rfl (Nat.le_of_ble_eq_true rfl) rfl ?_
  exact hh
theorem b_ne_spread_12 {E : gp_E} {S : gp_S} {X : gp_H} {Q : Option Value → gp_H → Prop} {x1 : Int32} {x2 : Int32} {a3 na3 : Nat} {x4 : Int32} {x5 : Int32} {x6 : Int32} (hX : Lay S X) (ha3 : gp_at X a3 (13, na3)) (hh : ((12 ≤ x6 → Q (some (.int x4)) X) ∧ (¬ 12 ≤ x6 → ((x5 = 0 → Q (some (.int x4)) X) ∧ (¬ x5 = 0 → (∃ Qz_7, Ev E m_ga_lowestIn 0 [(0, .int x5)] [] X (0, 0) Qz_7 ∧ ∀ r X_10, Qz_7 r X_10 → ∃ v_17 : Int32, r = some (.int v_17) ∧ Lay S X_10 ∧ gp_at X_10 a3 (13, na3) ∧ (vp_in v_17 na3 ∧ Ev E m_ne_spread 12 [(0, .ref 1), (1, .int x1), (2, .int x2), (3, .ref a3), (4, .int (x4 ||| (((gI X_10 a3 (Int32.toNatClampNeg v_17)) &&& x2) &&& (x4 ^^^ (-1))))), (5, .int ((x5 &&& (x5 - 1)) ||| (((gI X_10 a3 (Int32.toNatClampNeg v_17)) &&& x2) &&& (x4 ^^^ (-1))))), (6, .int (x6 + 1))] [] X_10 (0, 0) Q))))))) : Ev E m_ne_spread 12 [(0, .ref 1), (1, .int x1), (2, .int x2), (3, .ref a3), (4, .int x4), (5, .int x5), (6, .int x6)] [] X (0, 0) Q := by
  refine ev_iload (x := x6) (pc := 12) d_ne_spread_12 rfl ?_
  refine ev_bipush (v := 12) (pc := 14) d_ne_spread_14 kc_b_12 ?_
  refine ev_icmp_ge (pc := 16) (tgt := 65) d_ne_spread_16 (by decide) (fun c_1 => ?_) (fun c_1 => ?_)
  · have h_2 := hh.1 c_1
    refine ev_iload (x := x4) (pc := 65) d_ne_spread_65 rfl ?_
    exact ev_iret (pc := 67) ⟨Nat.le_of_ble_eq_true rfl, Nat.le_of_ble_eq_true rfl⟩ d_ne_spread_67 rfl (vp_nar_int _) h_2
  · have h_3 := hh.2 c_1
    refine ev_iload (x := x5) (pc := 19) d_ne_spread_19 rfl ?_
    refine ev_if_eq (pc := 21) (tgt := 65) d_ne_spread_21 (by decide) (fun c_4 => ?_) (fun c_4 => ?_)
    · have h_5 := h_3.1 c_4
      refine ev_iload (x := x4) (pc := 65) d_ne_spread_65 rfl ?_
      exact ev_iret (pc := 67) ⟨Nat.le_of_ble_eq_true rfl, Nat.le_of_ble_eq_true rfl⟩ d_ne_spread_67 rfl (vp_nar_int _) h_5
    · have h_6 := h_3.2 c_4
      refine ev_aload_n (x := a3) (pc := 24) d_ne_spread_24 rfl ?_
      refine ev_iload (x := x5) (pc := 25) d_ne_spread_25 rfl ?_
      obtain ⟨Qz_7, hc_8, hk_9⟩ := h_6
      refine ev_callSN (z := m_ga_lowestIn) (as := [.int x5]) (rest := [.ref a3]) (pc := 27) d_ne_spread_27 l_ne_66 i_ga_lowestIn o_ga_lowestIn rfl rfl (Nat.le_of_ble_eq_true rfl) rfl (Nat.le_of_ble_eq_true rfl) ⟨Nat.le_of_ble_eq_true rfl, Nat.le_of_ble_eq_true rfl⟩ hc_8 (fun r_11 X_10 hq_12 => ?_)
      obtain ⟨v_17, rfl, hX_14, hm_15, h_13⟩ := hk_9 _ _ hq_12
      show Ev E m_ne_spread 30 [(0, .ref 1), (1, .int x1), (2, .int x2), (3, .ref a3), (4, .int x4), (5, .int x5), (6, .int x6)] [.int v_17, .ref a3] X_10 (0, 0) Q
      refine ev_ialdJ (v := (gI X_10 a3 (Int32.toNatClampNeg v_17))) (pc := 30) d_ne_spread_30 hm_15 h_13.1 rfl ?_
      refine ev_iload_n (x := x2) (pc := 31) d_ne_spread_31 rfl ?_
      refine ev_iand (pc := 32) d_ne_spread_32 ?_
      refine ev_iload (x := x4) (pc := 33) d_ne_spread_33 rfl ?_
      refine ev_iconst (v := (-1)) (pc := 35) d_ne_spread_35 kc_i_m1 ?_
      refine ev_ixor (pc := 36) d_ne_spread_36 ?_
      refine ev_iand (pc := 37) d_ne_spread_37 ?_
      refine ev_istore (L2 := [(0, .ref 1), (1, .int x1), (2, .int x2), (3, .ref a3), (4, .int x4), (5, .int x5), (6, .int x6), (7, .int (((gI X_10 a3 (Int32.toNatClampNeg v_17)) &&& x2) &&& (x4 ^^^ (-1))))]) (pc := 38) d_ne_spread_38 rfl (Nat.le_of_ble_eq_true rfl) rfl ?_
      refine ev_iload (x := x5) (pc := 40) d_ne_spread_40 rfl ?_
      refine ev_iload (x := x5) (pc := 42) d_ne_spread_42 rfl ?_
      refine ev_iconst (v := 1) (pc := 44) d_ne_spread_44 kc_i_1 ?_
      refine ev_isub (pc := 45) d_ne_spread_45 ?_
      refine ev_iand (pc := 46) d_ne_spread_46 ?_
      refine ev_iload (x := (((gI X_10 a3 (Int32.toNatClampNeg v_17)) &&& x2) &&& (x4 ^^^ (-1)))) (pc := 47) d_ne_spread_47 rfl ?_
      refine ev_ior (pc := 49) d_ne_spread_49 ?_
      refine ev_istore (L2 := [(0, .ref 1), (1, .int x1), (2, .int x2), (3, .ref a3), (4, .int x4), (5, .int ((x5 &&& (x5 - 1)) ||| (((gI X_10 a3 (Int32.toNatClampNeg v_17)) &&& x2) &&& (x4 ^^^ (-1))))), (6, .int x6), (7, .int (((gI X_10 a3 (Int32.toNatClampNeg v_17)) &&& x2) &&& (x4 ^^^ (-1))))]) (pc := 50) d_ne_spread_50 rfl (Nat.le_of_ble_eq_true rfl) rfl ?_
      refine ev_iload (x := x4) (pc := 52) d_ne_spread_52 rfl ?_
      refine ev_iload (x := (((gI X_10 a3 (Int32.toNatClampNeg v_17)) &&& x2) &&& (x4 ^^^ (-1)))) (pc := 54) d_ne_spread_54 rfl ?_
      refine ev_ior (pc := 56) d_ne_spread_56 ?_
      refine ev_istore (L2 := [(0, .ref 1), (1, .int x1), (2, .int x2), (3, .ref a3), (4, .int (x4 ||| (((gI X_10 a3 (Int32.toNatClampNeg v_17)) &&& x2) &&& (x4 ^^^ (-1))))), (5, .int ((x5 &&& (x5 - 1)) ||| (((gI X_10 a3 (Int32.toNatClampNeg v_17)) &&& x2) &&& (x4 ^^^ (-1))))), (6, .int x6), (7, .int (((gI X_10 a3 (Int32.toNatClampNeg v_17)) &&& x2) &&& (x4 ^^^ (-1))))]) (pc := 57) d_ne_spread_57 rfl (Nat.le_of_ble_eq_true rfl) rfl ?_
      refine ev_iinc (v := (x6 + 1)) (L2 := [(0, .ref 1), (1, .int x1), (2, .int x2), (3, .ref a3), (4, .int (x4 ||| (((gI X_10 a3 (Int32.toNatClampNeg v_17)) &&& x2) &&& (x4 ^^^ (-1))))), (5, .int ((x5 &&& (x5 - 1)) ||| (((gI X_10 a3 (Int32.toNatClampNeg v_17)) &&& x2) &&& (x4 ^^^ (-1))))), (6, .int (x6 + 1)), (7, .int (((gI X_10 a3 (Int32.toNatClampNeg v_17)) &&& x2) &&& (x4 ^^^ (-1))))]) (pc := 59) d_ne_spread_59 rfl (by rw [kc_i_1]) rfl (Nat.le_of_ble_eq_true rfl) rfl ?_
      refine ev_goto (pc := 62) (tgt := 12) d_ne_spread_62 (by decide) ?_
      exact ev_sub [(0, .ref 1), (1, .int x1), (2, .int x2), (3, .ref a3), (4, .int (x4 ||| (((gI X_10 a3 (Int32.toNatClampNeg v_17)) &&& x2) &&& (x4 ^^^ (-1))))), (5, .int ((x5 &&& (x5 - 1)) ||| (((gI X_10 a3 (Int32.toNatClampNeg v_17)) &&& x2) &&& (x4 ^^^ (-1))))), (6, .int (x6 + 1))] (List.forall_mem_cons.mpr ⟨rfl, (List.forall_mem_cons.mpr ⟨rfl, (List.forall_mem_cons.mpr ⟨rfl, (List.forall_mem_cons.mpr ⟨rfl, (List.forall_mem_cons.mpr ⟨rfl, (List.forall_mem_cons.mpr ⟨rfl, (List.forall_mem_cons.mpr ⟨rfl, (fun _ h => nomatch h)⟩)⟩)⟩)⟩)⟩)⟩)⟩) h_13.2
theorem b_ne_makeIn_0 {E : gp_E} {S : gp_S} {X : gp_H} {Q : Option Value → gp_H → Prop} {x1 : Int32} (hX : Lay S X)  (hh : Ev E m_ne_makeIn 4 [(0, .ref 1), (1, .int x1), (2, .int 0), (3, .int 0)] [] X (0, 0) Q) : Ev E m_ne_makeIn 0 [(0, .ref 1), (1, .int x1)] [] X (0, 0) Q := by
  refine ev_iconst (v := 0) (pc := 0) d_ne_makeIn_0 kc_i_0 ?_
  refine ev_istore_n (L2 := [(0, .ref 1), (1, .int x1), (2, .int 0)]) (pc := 1) d_ne_makeIn_1 rfl (Nat.le_of_ble_eq_true rfl) rfl ?_
  refine ev_iconst (v := 0) (pc := 2) d_ne_makeIn_2 kc_i_0 ?_
  refine ev_istore_n (L2 := [(0, .ref 1), (1, .int x1), (2, .int 0), (3, .int 0)]) (pc := 3) d_ne_makeIn_3 rfl (Nat.le_of_ble_eq_true rfl) rfl ?_
  exact hh
theorem b_ne_makeIn_4 {E : gp_E} {S : gp_S} {X : gp_H} {Q : Option Value → gp_H → Prop} {x1 : Int32} {x2 : Int32} {x3 : Int32} (hX : Lay S X)  (hh : (((gI X 1 9) ≤ x3 → Q (some (.int x2)) X) ∧ (¬ (gI X 1 9) ≤ x3 → (vp_in x3 5 ∧ (((gI X 11 (Int32.toNatClampNeg x3)) = 0 → Ev E m_ne_makeIn 4 [(0, .ref 1), (1, .int x1), (2, .int x2), (3, .int (x3 + 1))] [] X (0, 0) Q) ∧ (¬ (gI X 11 (Int32.toNatClampNeg x3)) = 0 → (((gb x1 (gI X 8 (Int32.toNatClampNeg x3))) = false → Ev E m_ne_makeIn 4 [(0, .ref 1), (1, .int x1), (2, .int x2), (3, .int (x3 + 1))] [] X (0, 0) Q) ∧ ((gb x1 (gI X 8 (Int32.toNatClampNeg x3))) = true → Ev E m_ne_makeIn 4 [(0, .ref 1), (1, .int x1), (2, .int (x2 + (gI X 9 (Int32.toNatClampNeg x3)))), (3, .int (x3 + 1))] [] X (0, 0) Q)))))))) : Ev E m_ne_makeIn 4 [(0, .ref 1), (1, .int x1), (2, .int x2), (3, .int x3)] [] X (0, 0) Q := by
  refine ev_iload_n (x := x3) (pc := 4) d_ne_makeIn_4 rfl ?_
  refine ev_aload_n (x := 1) (pc := 5) d_ne_makeIn_5 rfl ?_
  refine ev_getJ (v := (gI X 1 9)) (pc := 6) d_ne_makeIn_6 f_ne_57 (ly_at hX 1 rfl) gg_5 rfl rfl ?_
  refine ev_icmp_ge (pc := 9) (tgt := 49) d_ne_makeIn_9 (by decide) (fun c_1 => ?_) (fun c_1 => ?_)
  · have h_2 := hh.1 c_1
    refine ev_iload_n (x := x2) (pc := 49) d_ne_makeIn_49 rfl ?_
    exact ev_iret (pc := 50) ⟨Nat.le_of_ble_eq_true rfl, Nat.le_of_ble_eq_true rfl⟩ d_ne_makeIn_50 rfl (vp_nar_int _) h_2
  · have h_3 := hh.2 c_1
    refine ev_aload_n (x := 1) (pc := 12) d_ne_makeIn_12 rfl ?_
    refine ev_getR (pc := 13) d_ne_makeIn_13 f_ne_44 (ly_at hX 1 rfl) gg_5 rfl (ly_rf hX 1 13 rfl) ?_
    refine ev_iload_n (x := x3) (pc := 16) d_ne_makeIn_16 rfl ?_
    refine ev_zaldJ (v := (gI X 11 (Int32.toNatClampNeg x3))) (pc := 17) d_ne_makeIn_17 (ly_at hX 11 rfl) h_3.1 rfl ?_
    refine ev_if_eq (pc := 18) (tgt := 43) d_ne_makeIn_18 (by decide) (fun c_4 => ?_) (fun c_4 => ?_)
    · have h_5 := h_3.2.1 c_4
      refine ev_iinc (v := (x3 + 1)) (L2 := [(0, .ref 1), (1, .int x1), (2, .int x2), (3, .int (x3 + 1))]) (pc := 43) d_ne_makeIn_43 rfl (by rw [kc_i_1]) rfl (Nat.le_of_ble_eq_true rfl) rfl ?_
      refine ev_goto (pc := 46) (tgt := 4) d_ne_makeIn_46 (by decide) ?_
      exact h_5
    · have h_6 := h_3.2.2 c_4
      refine ev_iload_n (x := x1) (pc := 21) d_ne_makeIn_21 rfl ?_
      refine ev_aload_n (x := 1) (pc := 22) d_ne_makeIn_22 rfl ?_
      refine ev_getR (pc := 23) d_ne_makeIn_23 f_ne_35 (ly_at hX 1 rfl) gg_5 rfl (ly_rf hX 1 10 rfl) ?_
      refine ev_iload_n (x := x3) (pc := 26) d_ne_makeIn_26 rfl ?_
      refine ev_ialdJ (v := (gI X 8 (Int32.toNatClampNeg x3))) (pc := 27) d_ne_makeIn_27 (ly_at hX 8 rfl) h_3.1 rfl ?_
      refine ev_callSN (z := m_ga_hasBit) (as := [.int x1, .int (gI X 8 (Int32.toNatClampNeg x3))]) (rest := []) (pc := 28) d_ne_makeIn_28 l_ne_81 i_ga_hasBit o_ga_hasBit rfl rfl (Nat.le_of_ble_eq_true rfl) rfl (Nat.le_of_ble_eq_true rfl) ⟨Nat.le_of_ble_eq_true rfl, Nat.le_of_ble_eq_true rfl⟩ (s_ga_hasBit hX x1 (gI X 8 (Int32.toNatClampNeg x3))) (fun r X1 hq => ?_)
      obtain ⟨rfl, rfl⟩ := hq
      show Ev E m_ne_makeIn 31 [(0, .ref 1), (1, .int x1), (2, .int x2), (3, .int x3)] [.int (bz (gb x1 (gI X 8 (Int32.toNatClampNeg x3))))] X (0, 0) Q
      refine ev_ifz_eq (pc := 31) (tgt := 43) d_ne_makeIn_31 (by decide) (fun c_7 => ?_) (fun c_7 => ?_)
      · have h_8 := h_6.1 c_7
        refine ev_iinc (v := (x3 + 1)) (L2 := [(0, .ref 1), (1, .int x1), (2, .int x2), (3, .int (x3 + 1))]) (pc := 43) d_ne_makeIn_43 rfl (by rw [kc_i_1]) rfl (Nat.le_of_ble_eq_true rfl) rfl ?_
        refine ev_goto (pc := 46) (tgt := 4) d_ne_makeIn_46 (by decide) ?_
        exact h_8
      · have h_9 := h_6.2 c_7
        refine ev_iload_n (x := x2) (pc := 34) d_ne_makeIn_34 rfl ?_
        refine ev_aload_n (x := 1) (pc := 35) d_ne_makeIn_35 rfl ?_
        refine ev_getR (pc := 36) d_ne_makeIn_36 f_ne_38 (ly_at hX 1 rfl) gg_5 rfl (ly_rf hX 1 11 rfl) ?_
        refine ev_iload_n (x := x3) (pc := 39) d_ne_makeIn_39 rfl ?_
        refine ev_ialdJ (v := (gI X 9 (Int32.toNatClampNeg x3))) (pc := 40) d_ne_makeIn_40 (ly_at hX 9 rfl) h_3.1 rfl ?_
        refine ev_iadd (pc := 41) d_ne_makeIn_41 ?_
        refine ev_istore_n (L2 := [(0, .ref 1), (1, .int x1), (2, .int (x2 + (gI X 9 (Int32.toNatClampNeg x3)))), (3, .int x3)]) (pc := 42) d_ne_makeIn_42 rfl (Nat.le_of_ble_eq_true rfl) rfl ?_
        refine ev_iinc (v := (x3 + 1)) (L2 := [(0, .ref 1), (1, .int x1), (2, .int (x2 + (gI X 9 (Int32.toNatClampNeg x3)))), (3, .int (x3 + 1))]) (pc := 43) d_ne_makeIn_43 rfl (by rw [kc_i_1]) rfl (Nat.le_of_ble_eq_true rfl) rfl ?_
        refine ev_goto (pc := 46) (tgt := 4) d_ne_makeIn_46 (by decide) ?_
        exact h_9
theorem b_ne_oldReach_0 {E : gp_E} {S : gp_S} {X : gp_H} {Q : Option Value → gp_H → Prop}  (hX : Lay S X)  (hh : Ev E m_ne_oldReach 4 [(0, .ref 1), (1, .int 0), (2, .int 0)] [] X (0, 0) Q) : Ev E m_ne_oldReach 0 [(0, .ref 1)] [] X (0, 0) Q := by
  refine ev_iconst (v := 0) (pc := 0) d_ne_oldReach_0 kc_i_0 ?_
  refine ev_istore_n (L2 := [(0, .ref 1), (1, .int 0)]) (pc := 1) d_ne_oldReach_1 rfl (Nat.le_of_ble_eq_true rfl) rfl ?_
  refine ev_iconst (v := 0) (pc := 2) d_ne_oldReach_2 kc_i_0 ?_
  refine ev_istore_n (L2 := [(0, .ref 1), (1, .int 0), (2, .int 0)]) (pc := 3) d_ne_oldReach_3 rfl (Nat.le_of_ble_eq_true rfl) rfl ?_
  exact hh
theorem b_ne_oldReach_4 {E : gp_E} {S : gp_S} {X : gp_H} {Q : Option Value → gp_H → Prop} {x1 : Int32} {x2 : Int32} (hX : Lay S X)  (hh : (((gI X 1 9) ≤ x2 → (∃ Qz_4, Ev E m_ne_spread 0 [(0, .ref 1), (1, .int x1), (2, .int (((1 : Int32) <<< ((gI X 1 0) &&& 31)) - 1)), (3, .ref 7)] [] X (0, 0) Qz_4 ∧ ∀ r X_7, Qz_4 r X_7 → ∃ v_12 : Int32, r = some (.int v_12) ∧ Lay S X_7 ∧ Q (some (.int v_12)) X_7)) ∧ (¬ (gI X 1 9) ≤ x2 → (vp_in x2 5 ∧ (((gI X 11 (Int32.toNatClampNeg x2)) = 0 → Ev E m_ne_oldReach 4 [(0, .ref 1), (1, .int x1), (2, .int (x2 + 1))] [] X (0, 0) Q) ∧ (¬ (gI X 11 (Int32.toNatClampNeg x2)) = 0 → Ev E m_ne_oldReach 4 [(0, .ref 1), (1, .int (x1 ||| ((1 : Int32) <<< ((gI X 8 (Int32.toNatClampNeg x2)) &&& 31)))), (2, .int (x2 + 1))] [] X (0, 0) Q)))))) : Ev E m_ne_oldReach 4 [(0, .ref 1), (1, .int x1), (2, .int x2)] [] X (0, 0) Q := by
  refine ev_iload_n (x := x2) (pc := 4) d_ne_oldReach_4 rfl ?_
  refine ev_aload_n (x := 1) (pc := 5) d_ne_oldReach_5 rfl ?_
  refine ev_getJ (v := (gI X 1 9)) (pc := 6) d_ne_oldReach_6 f_ne_57 (ly_at hX 1 rfl) gg_5 rfl rfl ?_
  refine ev_icmp_ge (pc := 9) (tgt := 38) d_ne_oldReach_9 (by decide) (fun c_1 => ?_) (fun c_1 => ?_)
  · have h_2 := hh.1 c_1
    refine ev_aload_n (x := 1) (pc := 38) d_ne_oldReach_38 rfl ?_
    refine ev_iload_n (x := x1) (pc := 39) d_ne_oldReach_39 rfl ?_
    refine ev_aload_n (x := 1) (pc := 40) d_ne_oldReach_40 rfl ?_
    refine ev_callV (z := m_ne_allKnots) (as := []) (rest := [.int x1, .ref 1]) (pc := 41) d_ne_oldReach_41 (ly_at hX 1 rfl) lt13_5 rfl l_ne_70 i_ne_allKnots v_ne_allKnots o_ne_allKnots rfl rfl (Nat.le_of_ble_eq_true rfl) rfl (Nat.le_of_ble_eq_true rfl) ⟨Nat.le_of_ble_eq_true rfl, Nat.le_of_ble_eq_true rfl⟩ (s_ne_allKnots hX  ) (fun r X1 hq => ?_)
    obtain ⟨rfl, rfl⟩ := hq
    show Ev E m_ne_oldReach 44 [(0, .ref 1), (1, .int x1), (2, .int x2)] [.int (((1 : Int32) <<< ((gI X 1 0) &&& 31)) - 1), .int x1, .ref 1] X (0, 0) Q
    refine ev_aload_n (x := 1) (pc := 44) d_ne_oldReach_44 rfl ?_
    refine ev_getR (pc := 45) d_ne_oldReach_45 f_ne_28 (ly_at hX 1 rfl) gg_5 rfl (ly_rf hX 1 7 rfl) ?_
    obtain ⟨Qz_4, hc_5, hk_6⟩ := h_2
    refine ev_callV (z := m_ne_spread) (as := [.int x1, .int (((1 : Int32) <<< ((gI X 1 0) &&& 31)) - 1), .ref 7]) (rest := []) (pc := 48) d_ne_oldReach_48 (ly_at hX 1 rfl) lt13_5 rfl l_ne_74 i_ne_spread v_ne_spread o_ne_spread rfl rfl (Nat.le_of_ble_eq_true rfl) rfl (Nat.le_of_ble_eq_true rfl) ⟨Nat.le_of_ble_eq_true rfl, Nat.le_of_ble_eq_true rfl⟩ hc_5 (fun r_8 X_7 hq_9 => ?_)
    obtain ⟨v_12, rfl, hX_11, h_10⟩ := hk_6 _ _ hq_9
    show Ev E m_ne_oldReach 51 [(0, .ref 1), (1, .int x1), (2, .int x2)] [.int v_12] X_7 (0, 0) Q
    exact ev_iret (pc := 51) ⟨Nat.le_of_ble_eq_true rfl, Nat.le_of_ble_eq_true rfl⟩ d_ne_oldReach_51 rfl (vp_nar_int _) h_10
  · have h_3 := hh.2 c_1
    refine ev_aload_n (x := 1) (pc := 12) d_ne_oldReach_12 rfl ?_
    refine ev_getR (pc := 13) d_ne_oldReach_13 f_ne_44 (ly_at hX 1 rfl) gg_5 rfl (ly_rf hX 1 13 rfl) ?_
    refine ev_iload_n (x := x2) (pc := 16) d_ne_oldReach_16 rfl ?_
    refine ev_zaldJ (v := (gI X 11 (Int32.toNatClampNeg x2))) (pc := 17) d_ne_oldReach_17 (ly_at hX 11 rfl) h_3.1 rfl ?_
    refine ev_if_eq (pc := 18) (tgt := 32) d_ne_oldReach_18 (by decide) (fun c_13 => ?_) (fun c_13 => ?_)
    · have h_14 := h_3.2.1 c_13
      refine ev_iinc (v := (x2 + 1)) (L2 := [(0, .ref 1), (1, .int x1), (2, .int (x2 + 1))]) (pc := 32) d_ne_oldReach_32 rfl (by rw [kc_i_1]) rfl (Nat.le_of_ble_eq_true rfl) rfl ?_
      refine ev_goto (pc := 35) (tgt := 4) d_ne_oldReach_35 (by decide) ?_
      exact h_14
    · have h_15 := h_3.2.2 c_13
      refine ev_iload_n (x := x1) (pc := 21) d_ne_oldReach_21 rfl ?_
      refine ev_iconst (v := 1) (pc := 22) d_ne_oldReach_22 kc_i_1 ?_
      refine ev_aload_n (x := 1) (pc := 23) d_ne_oldReach_23 rfl ?_
      refine ev_getR (pc := 24) d_ne_oldReach_24 f_ne_35 (ly_at hX 1 rfl) gg_5 rfl (ly_rf hX 1 10 rfl) ?_
      refine ev_iload_n (x := x2) (pc := 27) d_ne_oldReach_27 rfl ?_
      refine ev_ialdJ (v := (gI X 8 (Int32.toNatClampNeg x2))) (pc := 28) d_ne_oldReach_28 (ly_at hX 8 rfl) h_3.1 rfl ?_
      refine ev_ishl (pc := 29) d_ne_oldReach_29 ?_
      refine ev_ior (pc := 30) d_ne_oldReach_30 ?_
      refine ev_istore_n (L2 := [(0, .ref 1), (1, .int (x1 ||| ((1 : Int32) <<< ((gI X 8 (Int32.toNatClampNeg x2)) &&& 31)))), (2, .int x2)]) (pc := 31) d_ne_oldReach_31 rfl (Nat.le_of_ble_eq_true rfl) rfl ?_
      refine ev_iinc (v := (x2 + 1)) (L2 := [(0, .ref 1), (1, .int (x1 ||| ((1 : Int32) <<< ((gI X 8 (Int32.toNatClampNeg x2)) &&& 31)))), (2, .int (x2 + 1))]) (pc := 32) d_ne_oldReach_32 rfl (by rw [kc_i_1]) rfl (Nat.le_of_ble_eq_true rfl) rfl ?_
      refine ev_goto (pc := 35) (tgt := 4) d_ne_oldReach_35 (by decide) ?_
      exact h_15
theorem b_ne_newReach_0 {E : gp_E} {S : gp_S} {X : gp_H} {Q : Option Value → gp_H → Prop}  (hX : Lay S X)  (hh : (∃ Qz_1, Ev E m_ne_terminalBit 0 [(0, .ref 1)] [] X (0, 0) Qz_1 ∧ ∀ r X_4, Qz_1 r X_4 → ∃ v_9 : Int32, r = some (.int v_9) ∧ Lay S X_4 ∧ (∃ Qz_10, Ev E m_ne_spread 0 [(0, .ref 1), (1, .int v_9), (2, .int (((1 : Int32) <<< ((gI X_4 1 0) &&& 31)) - 1)), (3, .ref 7)] [] X_4 (0, 0) Qz_10 ∧ ∀ r X_13, Qz_10 r X_13 → ∃ v_18 : Int32, r = some (.int v_18) ∧ Lay S X_13 ∧ Q (some (.int v_18)) X_13))) : Ev E m_ne_newReach 0 [(0, .ref 1)] [] X (0, 0) Q := by
  refine ev_aload_n (x := 1) (pc := 0) d_ne_newReach_0 rfl ?_
  refine ev_aload_n (x := 1) (pc := 1) d_ne_newReach_1 rfl ?_
  obtain ⟨Qz_1, hc_2, hk_3⟩ := hh
  refine ev_callV (z := m_ne_terminalBit) (as := []) (rest := [.ref 1]) (pc := 2) d_ne_newReach_2 (ly_at hX 1 rfl) lt13_5 rfl l_ne_78 i_ne_terminalBit v_ne_terminalBit o_ne_terminalBit rfl rfl (Nat.le_of_ble_eq_true rfl) rfl (Nat.le_of_ble_eq_true rfl) ⟨Nat.le_of_ble_eq_true rfl, Nat.le_of_ble_eq_true rfl⟩ hc_2 (fun r_5 X_4 hq_6 => ?_)
  obtain ⟨v_9, rfl, hX_8, h_7⟩ := hk_3 _ _ hq_6
  show Ev E m_ne_newReach 5 [(0, .ref 1)] [.int v_9, .ref 1] X_4 (0, 0) Q
  refine ev_aload_n (x := 1) (pc := 5) d_ne_newReach_5 rfl ?_
  refine ev_callV (z := m_ne_allKnots) (as := []) (rest := [.int v_9, .ref 1]) (pc := 6) d_ne_newReach_6 (ly_at hX_8 1 rfl) lt13_5 rfl l_ne_70 i_ne_allKnots v_ne_allKnots o_ne_allKnots rfl rfl (Nat.le_of_ble_eq_true rfl) rfl (Nat.le_of_ble_eq_true rfl) ⟨Nat.le_of_ble_eq_true rfl, Nat.le_of_ble_eq_true rfl⟩ (s_ne_allKnots hX_8  ) (fun r X1 hq => ?_)
  obtain ⟨rfl, rfl⟩ := hq
  show Ev E m_ne_newReach 9 [(0, .ref 1)] [.int (((1 : Int32) <<< ((gI X_4 1 0) &&& 31)) - 1), .int v_9, .ref 1] X_4 (0, 0) Q
  refine ev_aload_n (x := 1) (pc := 9) d_ne_newReach_9 rfl ?_
  refine ev_getR (pc := 10) d_ne_newReach_10 f_ne_28 (ly_at hX_8 1 rfl) gg_5 rfl (ly_rf hX_8 1 7 rfl) ?_
  obtain ⟨Qz_10, hc_11, hk_12⟩ := h_7
  refine ev_callV (z := m_ne_spread) (as := [.int v_9, .int (((1 : Int32) <<< ((gI X_4 1 0) &&& 31)) - 1), .ref 7]) (rest := []) (pc := 13) d_ne_newReach_13 (ly_at hX_8 1 rfl) lt13_5 rfl l_ne_74 i_ne_spread v_ne_spread o_ne_spread rfl rfl (Nat.le_of_ble_eq_true rfl) rfl (Nat.le_of_ble_eq_true rfl) ⟨Nat.le_of_ble_eq_true rfl, Nat.le_of_ble_eq_true rfl⟩ hc_11 (fun r_14 X_13 hq_15 => ?_)
  obtain ⟨v_18, rfl, hX_17, h_16⟩ := hk_12 _ _ hq_15
  show Ev E m_ne_newReach 16 [(0, .ref 1)] [.int v_18] X_13 (0, 0) Q
  exact ev_iret (pc := 16) ⟨Nat.le_of_ble_eq_true rfl, Nat.le_of_ble_eq_true rfl⟩ d_ne_newReach_16 rfl (vp_nar_int _) h_16
theorem b_ne_terminalBit_0 {E : gp_E} {S : gp_S} {X : gp_H} {Q : Option Value → gp_H → Prop}  (hX : Lay S X)  (hh : ((¬ (gI X 1 8) = (-1) → Q (some (.int ((1 : Int32) <<< ((gI X 1 8) &&& 31)))) X) ∧ ((gI X 1 8) = (-1) → Q (some (.int 0)) X))) : Ev E m_ne_terminalBit 0 [(0, .ref 1)] [] X (0, 0) Q := by
  refine ev_aload_n (x := 1) (pc := 0) d_ne_terminalBit_0 rfl ?_
  refine ev_getJ (v := (gI X 1 8)) (pc := 1) d_ne_terminalBit_1 f_ne_31 (ly_at hX 1 rfl) gg_5 rfl rfl ?_
  refine ev_iconst (v := (-1)) (pc := 4) d_ne_terminalBit_4 kc_i_m1 ?_
  refine ev_icmp_ne (pc := 5) (tgt := 12) d_ne_terminalBit_5 (by decide) (fun c_1 => ?_) (fun c_1 => ?_)
  · have h_2 := hh.1 c_1
    refine ev_iconst (v := 1) (pc := 12) d_ne_terminalBit_12 kc_i_1 ?_
    refine ev_aload_n (x := 1) (pc := 13) d_ne_terminalBit_13 rfl ?_
    refine ev_getJ (v := (gI X 1 8)) (pc := 14) d_ne_terminalBit_14 f_ne_31 (ly_at hX 1 rfl) gg_5 rfl rfl ?_
    refine ev_ishl (pc := 17) d_ne_terminalBit_17 ?_
    exact ev_iret (pc := 18) ⟨Nat.le_of_ble_eq_true rfl, Nat.le_of_ble_eq_true rfl⟩ d_ne_terminalBit_18 rfl (vp_nar_int _) h_2
  · have h_3 := hh.2 c_1
    refine ev_iconst (v := 0) (pc := 8) d_ne_terminalBit_8 kc_i_0 ?_
    refine ev_goto (pc := 9) (tgt := 18) d_ne_terminalBit_9 (by decide) ?_
    exact ev_iret (pc := 18) ⟨Nat.le_of_ble_eq_true rfl, Nat.le_of_ble_eq_true rfl⟩ d_ne_terminalBit_18 rfl (vp_nar_int _) h_3
theorem b_ne_canBePartedFromRest_0 {E : gp_E} {S : gp_S} {X : gp_H} {Q : Option Value → gp_H → Prop} {x1 : Int32} (hX : Lay S X)  (hh : Ev E m_ne_canBePartedFromRest 2 [(0, .ref 1), (1, .int x1), (2, .int 0)] [] X (0, 0) Q) : Ev E m_ne_canBePartedFromRest 0 [(0, .ref 1), (1, .int x1)] [] X (0, 0) Q := by
  refine ev_iconst (v := 0) (pc := 0) d_ne_canBePartedFromRest_0 kc_i_0 ?_
  refine ev_istore_n (L2 := [(0, .ref 1), (1, .int x1), (2, .int 0)]) (pc := 1) d_ne_canBePartedFromRest_1 rfl (Nat.le_of_ble_eq_true rfl) rfl ?_
  exact hh
theorem b_ne_canBePartedFromRest_2 {E : gp_E} {S : gp_S} {X : gp_H} {Q : Option Value → gp_H → Prop} {x1 : Int32} {x2 : Int32} (hX : Lay S X)  (hh : (((gI X 1 1) ≤ x2 → Q (some (.int 1)) X) ∧ (¬ (gI X 1 1) ≤ x2 → (∃ Qz_4, Ev E m_ne_crosses 0 [(0, .ref 1), (1, .int x2), (2, .int x1)] [] X (0, 0) Qz_4 ∧ ∀ r X_7, Qz_4 r X_7 → ∃ v_12 : Int32, r = some (.int v_12) ∧ Lay S X_7 ∧ ((v_12 = 0 → Ev E m_ne_canBePartedFromRest 2 [(0, .ref 1), (1, .int x1), (2, .int (x2 + 1))] [] X_7 (0, 0) Q) ∧ (¬ v_12 = 0 → (vp_in x2 20 ∧ ((¬ (gI X_7 4 (Int32.toNatClampNeg x2)) = 0 → Ev E m_ne_canBePartedFromRest 2 [(0, .ref 1), (1, .int x1), (2, .int (x2 + 1))] [] X_7 (0, 0) Q) ∧ ((gI X_7 4 (Int32.toNatClampNeg x2)) = 0 → Q (some (.int 0)) X_7))))))))) : Ev E m_ne_canBePartedFromRest 2 [(0, .ref 1), (1, .int x1), (2, .int x2)] [] X (0, 0) Q := by
  refine ev_iload_n (x := x2) (pc := 2) d_ne_canBePartedFromRest_2 rfl ?_
  refine ev_aload_n (x := 1) (pc := 3) d_ne_canBePartedFromRest_3 rfl ?_
  refine ev_getJ (v := (gI X 1 1)) (pc := 4) d_ne_canBePartedFromRest_4 f_ne_54 (ly_at hX 1 rfl) gg_5 rfl rfl ?_
  refine ev_icmp_ge (pc := 7) (tgt := 36) d_ne_canBePartedFromRest_7 (by decide) (fun c_1 => ?_) (fun c_1 => ?_)
  · have h_2 := hh.1 c_1
    refine ev_iconst (v := 1) (pc := 36) d_ne_canBePartedFromRest_36 kc_i_1 ?_
    exact ev_iret (pc := 37) ⟨Nat.le_of_ble_eq_true rfl, Nat.le_of_ble_eq_true rfl⟩ d_ne_canBePartedFromRest_37 rfl nb_1 h_2
  · have h_3 := hh.2 c_1
    refine ev_aload_n (x := 1) (pc := 10) d_ne_canBePartedFromRest_10 rfl ?_
    refine ev_iload_n (x := x2) (pc := 11) d_ne_canBePartedFromRest_11 rfl ?_
    refine ev_iload_n (x := x1) (pc := 12) d_ne_canBePartedFromRest_12 rfl ?_
    obtain ⟨Qz_4, hc_5, hk_6⟩ := h_3
    refine ev_callV (z := m_ne_crosses) (as := [.int x2, .int x1]) (rest := []) (pc := 13) d_ne_canBePartedFromRest_13 (ly_at hX 1 rfl) lt13_5 rfl l_ne_89 i_ne_crosses v_ne_crosses o_ne_crosses rfl rfl (Nat.le_of_ble_eq_true rfl) rfl (Nat.le_of_ble_eq_true rfl) ⟨Nat.le_of_ble_eq_true rfl, Nat.le_of_ble_eq_true rfl⟩ hc_5 (fun r_8 X_7 hq_9 => ?_)
    obtain ⟨v_12, rfl, hX_11, h_10⟩ := hk_6 _ _ hq_9
    show Ev E m_ne_canBePartedFromRest 16 [(0, .ref 1), (1, .int x1), (2, .int x2)] [.int v_12] X_7 (0, 0) Q
    refine ev_if_eq (pc := 16) (tgt := 30) d_ne_canBePartedFromRest_16 (by decide) (fun c_13 => ?_) (fun c_13 => ?_)
    · have h_14 := h_10.1 c_13
      refine ev_iinc (v := (x2 + 1)) (L2 := [(0, .ref 1), (1, .int x1), (2, .int (x2 + 1))]) (pc := 30) d_ne_canBePartedFromRest_30 rfl (by rw [kc_i_1]) rfl (Nat.le_of_ble_eq_true rfl) rfl ?_
      refine ev_goto (pc := 33) (tgt := 2) d_ne_canBePartedFromRest_33 (by decide) ?_
      exact h_14
    · have h_15 := h_10.2 c_13
      refine ev_aload_n (x := 1) (pc := 19) d_ne_canBePartedFromRest_19 rfl ?_
      refine ev_getR (pc := 20) d_ne_canBePartedFromRest_20 f_ne_18 (ly_at hX_11 1 rfl) gg_5 rfl (ly_rf hX_11 1 4 rfl) ?_
      refine ev_iload_n (x := x2) (pc := 23) d_ne_canBePartedFromRest_23 rfl ?_
      refine ev_zaldJ (v := (gI X_7 4 (Int32.toNatClampNeg x2))) (pc := 24) d_ne_canBePartedFromRest_24 (ly_at hX_11 4 rfl) h_15.1 rfl ?_
      refine ev_if_ne (pc := 25) (tgt := 30) d_ne_canBePartedFromRest_25 (by decide) (fun c_16 => ?_) (fun c_16 => ?_)
      · have h_17 := h_15.2.1 c_16
        refine ev_iinc (v := (x2 + 1)) (L2 := [(0, .ref 1), (1, .int x1), (2, .int (x2 + 1))]) (pc := 30) d_ne_canBePartedFromRest_30 rfl (by rw [kc_i_1]) rfl (Nat.le_of_ble_eq_true rfl) rfl ?_
        refine ev_goto (pc := 33) (tgt := 2) d_ne_canBePartedFromRest_33 (by decide) ?_
        exact h_17
      · have h_18 := h_15.2.2 c_16
        refine ev_iconst (v := 0) (pc := 28) d_ne_canBePartedFromRest_28 kc_i_0 ?_
        exact ev_iret (pc := 29) ⟨Nat.le_of_ble_eq_true rfl, Nat.le_of_ble_eq_true rfl⟩ d_ne_canBePartedFromRest_29 rfl nb_0 h_18
theorem b_ne_crosses_0 {E : gp_E} {S : gp_S} {X : gp_H} {Q : Option Value → gp_H → Prop} {x1 : Int32} {x2 : Int32} (hX : Lay S X)  (hh : (vp_in x1 20 ∧ (((bz (gb x2 (gI X 2 (Int32.toNatClampNeg x1)))) = (bz (gb x2 (gI X 3 (Int32.toNatClampNeg x1)))) → Q (some (.int 0)) X) ∧ (¬ (bz (gb x2 (gI X 2 (Int32.toNatClampNeg x1)))) = (bz (gb x2 (gI X 3 (Int32.toNatClampNeg x1)))) → Q (some (.int 1)) X)))) : Ev E m_ne_crosses 0 [(0, .ref 1), (1, .int x1), (2, .int x2)] [] X (0, 0) Q := by
  refine ev_iload_n (x := x2) (pc := 0) d_ne_crosses_0 rfl ?_
  refine ev_aload_n (x := 1) (pc := 1) d_ne_crosses_1 rfl ?_
  refine ev_getR (pc := 2) d_ne_crosses_2 f_ne_9 (ly_at hX 1 rfl) gg_5 rfl (ly_rf hX 1 2 rfl) ?_
  refine ev_iload_n (x := x1) (pc := 5) d_ne_crosses_5 rfl ?_
  refine ev_ialdJ (v := (gI X 2 (Int32.toNatClampNeg x1))) (pc := 6) d_ne_crosses_6 (ly_at hX 2 rfl) hh.1 rfl ?_
  refine ev_callSN (z := m_ga_hasBit) (as := [.int x2, .int (gI X 2 (Int32.toNatClampNeg x1))]) (rest := []) (pc := 7) d_ne_crosses_7 l_ne_81 i_ga_hasBit o_ga_hasBit rfl rfl (Nat.le_of_ble_eq_true rfl) rfl (Nat.le_of_ble_eq_true rfl) ⟨Nat.le_of_ble_eq_true rfl, Nat.le_of_ble_eq_true rfl⟩ (s_ga_hasBit hX x2 (gI X 2 (Int32.toNatClampNeg x1))) (fun r X1 hq => ?_)
  obtain ⟨rfl, rfl⟩ := hq
  show Ev E m_ne_crosses 10 [(0, .ref 1), (1, .int x1), (2, .int x2)] [.int (bz (gb x2 (gI X 2 (Int32.toNatClampNeg x1))))] X (0, 0) Q
  refine ev_iload_n (x := x2) (pc := 10) d_ne_crosses_10 rfl ?_
  refine ev_aload_n (x := 1) (pc := 11) d_ne_crosses_11 rfl ?_
  refine ev_getR (pc := 12) d_ne_crosses_12 f_ne_15 (ly_at hX 1 rfl) gg_5 rfl (ly_rf hX 1 3 rfl) ?_
  refine ev_iload_n (x := x1) (pc := 15) d_ne_crosses_15 rfl ?_
  refine ev_ialdJ (v := (gI X 3 (Int32.toNatClampNeg x1))) (pc := 16) d_ne_crosses_16 (ly_at hX 3 rfl) hh.1 rfl ?_
  refine ev_callSN (z := m_ga_hasBit) (as := [.int x2, .int (gI X 3 (Int32.toNatClampNeg x1))]) (rest := [.int (bz (gb x2 (gI X 2 (Int32.toNatClampNeg x1))))]) (pc := 17) d_ne_crosses_17 l_ne_81 i_ga_hasBit o_ga_hasBit rfl rfl (Nat.le_of_ble_eq_true rfl) rfl (Nat.le_of_ble_eq_true rfl) ⟨Nat.le_of_ble_eq_true rfl, Nat.le_of_ble_eq_true rfl⟩ (s_ga_hasBit hX x2 (gI X 3 (Int32.toNatClampNeg x1))) (fun r X1 hq => ?_)
  obtain ⟨rfl, rfl⟩ := hq
  show Ev E m_ne_crosses 20 [(0, .ref 1), (1, .int x1), (2, .int x2)] [.int (bz (gb x2 (gI X 3 (Int32.toNatClampNeg x1)))), .int (bz (gb x2 (gI X 2 (Int32.toNatClampNeg x1))))] X (0, 0) Q
  refine ev_icmp_eq (pc := 20) (tgt := 27) d_ne_crosses_20 (by decide) (fun c_1 => ?_) (fun c_1 => ?_)
  · have h_2 := hh.2.1 c_1
    refine ev_iconst (v := 0) (pc := 27) d_ne_crosses_27 kc_i_0 ?_
    exact ev_iret (pc := 28) ⟨Nat.le_of_ble_eq_true rfl, Nat.le_of_ble_eq_true rfl⟩ d_ne_crosses_28 rfl nb_0 h_2
  · have h_3 := hh.2.2 c_1
    refine ev_iconst (v := 1) (pc := 23) d_ne_crosses_23 kc_i_1 ?_
    refine ev_goto (pc := 24) (tgt := 28) d_ne_crosses_24 (by decide) ?_
    exact ev_iret (pc := 28) ⟨Nat.le_of_ble_eq_true rfl, Nat.le_of_ble_eq_true rfl⟩ d_ne_crosses_28 rfl nb_1 h_3
theorem b_ne_fedWithin_0 {E : gp_E} {S : gp_S} {X : gp_H} {Q : Option Value → gp_H → Prop} {x1 : Int32} (hX : Lay S X)  (hh : (∃ Qz_1, Ev E m_ne_terminalBit 0 [(0, .ref 1)] [] X (0, 0) Qz_1 ∧ ∀ r X_4, Qz_1 r X_4 → ∃ v_9 : Int32, r = some (.int v_9) ∧ Lay S X_4 ∧ (∃ Qz_10, Ev E m_ne_spread 0 [(0, .ref 1), (1, .int v_9), (2, .int x1), (3, .ref 6)] [] X_4 (0, 0) Qz_10 ∧ ∀ r X_13, Qz_10 r X_13 → ∃ v_18 : Int32, r = some (.int v_18) ∧ Lay S X_13 ∧ Q (some (.int v_18)) X_13))) : Ev E m_ne_fedWithin 0 [(0, .ref 1), (1, .int x1)] [] X (0, 0) Q := by
  refine ev_aload_n (x := 1) (pc := 0) d_ne_fedWithin_0 rfl ?_
  refine ev_aload_n (x := 1) (pc := 1) d_ne_fedWithin_1 rfl ?_
  obtain ⟨Qz_1, hc_2, hk_3⟩ := hh
  refine ev_callV (z := m_ne_terminalBit) (as := []) (rest := [.ref 1]) (pc := 2) d_ne_fedWithin_2 (ly_at hX 1 rfl) lt13_5 rfl l_ne_78 i_ne_terminalBit v_ne_terminalBit o_ne_terminalBit rfl rfl (Nat.le_of_ble_eq_true rfl) rfl (Nat.le_of_ble_eq_true rfl) ⟨Nat.le_of_ble_eq_true rfl, Nat.le_of_ble_eq_true rfl⟩ hc_2 (fun r_5 X_4 hq_6 => ?_)
  obtain ⟨v_9, rfl, hX_8, h_7⟩ := hk_3 _ _ hq_6
  show Ev E m_ne_fedWithin 5 [(0, .ref 1), (1, .int x1)] [.int v_9, .ref 1] X_4 (0, 0) Q
  refine ev_iload_n (x := x1) (pc := 5) d_ne_fedWithin_5 rfl ?_
  refine ev_aload_n (x := 1) (pc := 6) d_ne_fedWithin_6 rfl ?_
  refine ev_getR (pc := 7) d_ne_fedWithin_7 f_ne_25 (ly_at hX_8 1 rfl) gg_5 rfl (ly_rf hX_8 1 6 rfl) ?_
  obtain ⟨Qz_10, hc_11, hk_12⟩ := h_7
  refine ev_callV (z := m_ne_spread) (as := [.int v_9, .int x1, .ref 6]) (rest := []) (pc := 10) d_ne_fedWithin_10 (ly_at hX_8 1 rfl) lt13_5 rfl l_ne_74 i_ne_spread v_ne_spread o_ne_spread rfl rfl (Nat.le_of_ble_eq_true rfl) rfl (Nat.le_of_ble_eq_true rfl) ⟨Nat.le_of_ble_eq_true rfl, Nat.le_of_ble_eq_true rfl⟩ hc_11 (fun r_14 X_13 hq_15 => ?_)
  obtain ⟨v_18, rfl, hX_17, h_16⟩ := hk_12 _ _ hq_15
  show Ev E m_ne_fedWithin 13 [(0, .ref 1), (1, .int x1)] [.int v_18] X_13 (0, 0) Q
  exact ev_iret (pc := 13) ⟨Nat.le_of_ble_eq_true rfl, Nat.le_of_ble_eq_true rfl⟩ d_ne_fedWithin_13 rfl (vp_nar_int _) h_16
theorem b_ne_pipesToRest_0 {E : gp_E} {S : gp_S} {X : gp_H} {Q : Option Value → gp_H → Prop} {x1 : Int32} (hX : Lay S X)  (hh : Ev E m_ne_pipesToRest 4 [(0, .ref 1), (1, .int x1), (2, .int 0), (3, .int 0)] [] X (0, 0) Q) : Ev E m_ne_pipesToRest 0 [(0, .ref 1), (1, .int x1)] [] X (0, 0) Q := by
  refine ev_iconst (v := 0) (pc := 0) d_ne_pipesToRest_0 kc_i_0 ?_
  refine ev_istore_n (L2 := [(0, .ref 1), (1, .int x1), (2, .int 0)]) (pc := 1) d_ne_pipesToRest_1 rfl (Nat.le_of_ble_eq_true rfl) rfl ?_
  refine ev_iconst (v := 0) (pc := 2) d_ne_pipesToRest_2 kc_i_0 ?_
  refine ev_istore_n (L2 := [(0, .ref 1), (1, .int x1), (2, .int 0), (3, .int 0)]) (pc := 3) d_ne_pipesToRest_3 rfl (Nat.le_of_ble_eq_true rfl) rfl ?_
  exact hh
theorem b_ne_pipesToRest_4 {E : gp_E} {S : gp_S} {X : gp_H} {Q : Option Value → gp_H → Prop} {x1 : Int32} {x2 : Int32} {x3 : Int32} (hX : Lay S X)  (hh : (((gI X 1 1) ≤ x3 → Q (some (.int x2)) X) ∧ (¬ (gI X 1 1) ≤ x3 → (∃ Qz_4, Ev E m_ne_crosses 0 [(0, .ref 1), (1, .int x3), (2, .int x1)] [] X (0, 0) Qz_4 ∧ ∀ r X_7, Qz_4 r X_7 → ∃ v_12 : Int32, r = some (.int v_12) ∧ Lay S X_7 ∧ ((v_12 = 0 → Ev E m_ne_pipesToRest 4 [(0, .ref 1), (1, .int x1), (2, .int x2), (3, .int (x3 + 1))] [] X_7 (0, 0) Q) ∧ (¬ v_12 = 0 → Ev E m_ne_pipesToRest 4 [(0, .ref 1), (1, .int x1), (2, .int (x2 + 1)), (3, .int (x3 + 1))] [] X_7 (0, 0) Q)))))) : Ev E m_ne_pipesToRest 4 [(0, .ref 1), (1, .int x1), (2, .int x2), (3, .int x3)] [] X (0, 0) Q := by
  refine ev_iload_n (x := x3) (pc := 4) d_ne_pipesToRest_4 rfl ?_
  refine ev_aload_n (x := 1) (pc := 5) d_ne_pipesToRest_5 rfl ?_
  refine ev_getJ (v := (gI X 1 1)) (pc := 6) d_ne_pipesToRest_6 f_ne_54 (ly_at hX 1 rfl) gg_5 rfl rfl ?_
  refine ev_icmp_ge (pc := 9) (tgt := 30) d_ne_pipesToRest_9 (by decide) (fun c_1 => ?_) (fun c_1 => ?_)
  · have h_2 := hh.1 c_1
    refine ev_iload_n (x := x2) (pc := 30) d_ne_pipesToRest_30 rfl ?_
    exact ev_iret (pc := 31) ⟨Nat.le_of_ble_eq_true rfl, Nat.le_of_ble_eq_true rfl⟩ d_ne_pipesToRest_31 rfl (vp_nar_int _) h_2
  · have h_3 := hh.2 c_1
    refine ev_aload_n (x := 1) (pc := 12) d_ne_pipesToRest_12 rfl ?_
    refine ev_iload_n (x := x3) (pc := 13) d_ne_pipesToRest_13 rfl ?_
    refine ev_iload_n (x := x1) (pc := 14) d_ne_pipesToRest_14 rfl ?_
    obtain ⟨Qz_4, hc_5, hk_6⟩ := h_3
    refine ev_callV (z := m_ne_crosses) (as := [.int x3, .int x1]) (rest := []) (pc := 15) d_ne_pipesToRest_15 (ly_at hX 1 rfl) lt13_5 rfl l_ne_89 i_ne_crosses v_ne_crosses o_ne_crosses rfl rfl (Nat.le_of_ble_eq_true rfl) rfl (Nat.le_of_ble_eq_true rfl) ⟨Nat.le_of_ble_eq_true rfl, Nat.le_of_ble_eq_true rfl⟩ hc_5 (fun r_8 X_7 hq_9 => ?_)
    obtain ⟨v_12, rfl, hX_11, h_10⟩ := hk_6 _ _ hq_9
    show Ev E m_ne_pipesToRest 18 [(0, .ref 1), (1, .int x1), (2, .int x2), (3, .int x3)] [.int v_12] X_7 (0, 0) Q
    refine ev_if_eq (pc := 18) (tgt := 24) d_ne_pipesToRest_18 (by decide) (fun c_13 => ?_) (fun c_13 => ?_)
    · have h_14 := h_10.1 c_13
      refine ev_iinc (v := (x3 + 1)) (L2 := [(0, .ref 1), (1, .int x1), (2, .int x2), (3, .int (x3 + 1))]) (pc := 24) d_ne_pipesToRest_24 rfl (by rw [kc_i_1]) rfl (Nat.le_of_ble_eq_true rfl) rfl ?_
      refine ev_goto (pc := 27) (tgt := 4) d_ne_pipesToRest_27 (by decide) ?_
      exact h_14
    · have h_15 := h_10.2 c_13
      refine ev_iinc (v := (x2 + 1)) (L2 := [(0, .ref 1), (1, .int x1), (2, .int (x2 + 1)), (3, .int x3)]) (pc := 21) d_ne_pipesToRest_21 rfl (by rw [kc_i_1]) rfl (Nat.le_of_ble_eq_true rfl) rfl ?_
      refine ev_iinc (v := (x3 + 1)) (L2 := [(0, .ref 1), (1, .int x1), (2, .int (x2 + 1)), (3, .int (x3 + 1))]) (pc := 24) d_ne_pipesToRest_24 rfl (by rw [kc_i_1]) rfl (Nat.le_of_ble_eq_true rfl) rfl ?_
      refine ev_goto (pc := 27) (tgt := 4) d_ne_pipesToRest_27 (by decide) ?_
      exact h_15
theorem b_ne_closeWorksAt_0 {E : gp_E} {S : gp_S} {X : gp_H} {Q : Option Value → gp_H → Prop} {x1 : Int32} (hX : Lay S X)  (hh : Ev E m_ne_closeWorksAt 2 [(0, .ref 1), (1, .int x1), (2, .int 0)] [] X (0, 0) Q) : Ev E m_ne_closeWorksAt 0 [(0, .ref 1), (1, .int x1)] [] X (0, 0) Q := by
  refine ev_iconst (v := 0) (pc := 0) d_ne_closeWorksAt_0 kc_i_0 ?_
  refine ev_istore_n (L2 := [(0, .ref 1), (1, .int x1), (2, .int 0)]) (pc := 1) d_ne_closeWorksAt_1 rfl (Nat.le_of_ble_eq_true rfl) rfl ?_
  exact hh
theorem b_ne_closeWorksAt_2 {E : gp_E} {S : gp_S} {X : gp_H} {Q : Option Value → gp_H → Prop} {x1 : Int32} {x2 : Int32} (hX : Lay S X)  (hh : (((gI X 1 9) ≤ x2 → Q none X) ∧ (¬ (gI X 1 9) ≤ x2 → (vp_in x2 5 ∧ (((gb x1 (gI X 8 (Int32.toNatClampNeg x2))) = false → Ev E m_ne_closeWorksAt 2 [(0, .ref 1), (1, .int x1), (2, .int (x2 + 1))] [] X (0, 0) Q) ∧ ((gb x1 (gI X 8 (Int32.toNatClampNeg x2))) = true → Ev E m_ne_closeWorksAt 2 [(0, .ref 1), (1, .int x1), (2, .int (x2 + 1))] [] (gp_sI X 11 (Int32.toNatClampNeg x2) 0) (0, 0) Q)))))) : Ev E m_ne_closeWorksAt 2 [(0, .ref 1), (1, .int x1), (2, .int x2)] [] X (0, 0) Q := by
  refine ev_iload_n (x := x2) (pc := 2) d_ne_closeWorksAt_2 rfl ?_
  refine ev_aload_n (x := 1) (pc := 3) d_ne_closeWorksAt_3 rfl ?_
  refine ev_getJ (v := (gI X 1 9)) (pc := 4) d_ne_closeWorksAt_4 f_ne_57 (ly_at hX 1 rfl) gg_5 rfl rfl ?_
  refine ev_icmp_ge (pc := 7) (tgt := 36) d_ne_closeWorksAt_7 (by decide) (fun c_1 => ?_) (fun c_1 => ?_)
  · have h_2 := hh.1 c_1
    exact ev_ret (pc := 36) ⟨Nat.le_of_ble_eq_true rfl, Nat.le_of_ble_eq_true rfl⟩ d_ne_closeWorksAt_36 rfl h_2
  · have h_3 := hh.2 c_1
    refine ev_iload_n (x := x1) (pc := 10) d_ne_closeWorksAt_10 rfl ?_
    refine ev_aload_n (x := 1) (pc := 11) d_ne_closeWorksAt_11 rfl ?_
    refine ev_getR (pc := 12) d_ne_closeWorksAt_12 f_ne_35 (ly_at hX 1 rfl) gg_5 rfl (ly_rf hX 1 10 rfl) ?_
    refine ev_iload_n (x := x2) (pc := 15) d_ne_closeWorksAt_15 rfl ?_
    refine ev_ialdJ (v := (gI X 8 (Int32.toNatClampNeg x2))) (pc := 16) d_ne_closeWorksAt_16 (ly_at hX 8 rfl) h_3.1 rfl ?_
    refine ev_callSN (z := m_ga_hasBit) (as := [.int x1, .int (gI X 8 (Int32.toNatClampNeg x2))]) (rest := []) (pc := 17) d_ne_closeWorksAt_17 l_ne_81 i_ga_hasBit o_ga_hasBit rfl rfl (Nat.le_of_ble_eq_true rfl) rfl (Nat.le_of_ble_eq_true rfl) ⟨Nat.le_of_ble_eq_true rfl, Nat.le_of_ble_eq_true rfl⟩ (s_ga_hasBit hX x1 (gI X 8 (Int32.toNatClampNeg x2))) (fun r X1 hq => ?_)
    obtain ⟨rfl, rfl⟩ := hq
    show Ev E m_ne_closeWorksAt 20 [(0, .ref 1), (1, .int x1), (2, .int x2)] [.int (bz (gb x1 (gI X 8 (Int32.toNatClampNeg x2))))] X (0, 0) Q
    refine ev_ifz_eq (pc := 20) (tgt := 30) d_ne_closeWorksAt_20 (by decide) (fun c_4 => ?_) (fun c_4 => ?_)
    · have h_5 := h_3.2.1 c_4
      refine ev_iinc (v := (x2 + 1)) (L2 := [(0, .ref 1), (1, .int x1), (2, .int (x2 + 1))]) (pc := 30) d_ne_closeWorksAt_30 rfl (by rw [kc_i_1]) rfl (Nat.le_of_ble_eq_true rfl) rfl ?_
      refine ev_goto (pc := 33) (tgt := 2) d_ne_closeWorksAt_33 (by decide) ?_
      exact h_5
    · have h_6 := h_3.2.2 c_4
      refine ev_aload_n (x := 1) (pc := 23) d_ne_closeWorksAt_23 rfl ?_
      refine ev_getR (pc := 24) d_ne_closeWorksAt_24 f_ne_44 (ly_at hX 1 rfl) gg_5 rfl (ly_rf hX 1 13 rfl) ?_
      refine ev_iload_n (x := x2) (pc := 27) d_ne_closeWorksAt_27 rfl ?_
      refine ev_iconst (v := 0) (pc := 28) d_ne_closeWorksAt_28 kc_i_0 ?_
      refine ev_zast (pc := 29) d_ne_closeWorksAt_29 (ly_at hX 11 rfl) h_3.1 nb_0 ?_
      refine ev_iinc (v := (x2 + 1)) (L2 := [(0, .ref 1), (1, .int x1), (2, .int (x2 + 1))]) (pc := 30) d_ne_closeWorksAt_30 rfl (by rw [kc_i_1]) rfl (Nat.le_of_ble_eq_true rfl) rfl ?_
      refine ev_goto (pc := 33) (tgt := 2) d_ne_closeWorksAt_33 (by decide) ?_
      exact h_6
theorem b_ne_partFromRest_0 {E : gp_E} {S : gp_S} {X : gp_H} {Q : Option Value → gp_H → Prop} {x1 : Int32} (hX : Lay S X)  (hh : Ev E m_ne_partFromRest 2 [(0, .ref 1), (1, .int x1), (2, .int 0)] [] X (0, 0) Q) : Ev E m_ne_partFromRest 0 [(0, .ref 1), (1, .int x1)] [] X (0, 0) Q := by
  refine ev_iconst (v := 0) (pc := 0) d_ne_partFromRest_0 kc_i_0 ?_
  refine ev_istore_n (L2 := [(0, .ref 1), (1, .int x1), (2, .int 0)]) (pc := 1) d_ne_partFromRest_1 rfl (Nat.le_of_ble_eq_true rfl) rfl ?_
  exact hh
theorem b_ne_partFromRest_2 {E : gp_E} {S : gp_S} {X : gp_H} {Q : Option Value → gp_H → Prop} {x1 : Int32} {x2 : Int32} (hX : Lay S X)  (hh : (((gI X 1 1) ≤ x2 → (∃ Qz_4, Ev E m_ne_joinOpen 0 [(0, .ref 1)] [] X (0, 0) Qz_4 ∧ ∀ r X_7, Qz_4 r X_7 → (r = none ∧ Lay S X_7 ∧ Q none X_7))) ∧ (¬ (gI X 1 1) ≤ x2 → (vp_in x2 20 ∧ ((¬ (gI X 4 (Int32.toNatClampNeg x2)) = 0 → (∃ Qz_15, Ev E m_ne_crosses 0 [(0, .ref 1), (1, .int x2), (2, .int x1)] [] X (0, 0) Qz_15 ∧ ∀ r X_18, Qz_15 r X_18 → ∃ v_23 : Int32, r = some (.int v_23) ∧ Lay S X_18 ∧ ((v_23 = 0 → (((gb x1 (gI X_18 2 (Int32.toNatClampNeg x2))) = false → Ev E m_ne_partFromRest 2 [(0, .ref 1), (1, .int x1), (2, .int (x2 + 1))] [] X_18 (0, 0) Q) ∧ ((gb x1 (gI X_18 2 (Int32.toNatClampNeg x2))) = true → Ev E m_ne_partFromRest 2 [(0, .ref 1), (1, .int x1), (2, .int (x2 + 1))] [] (gp_sI X_18 5 (Int32.toNatClampNeg x2) 1) (0, 0) Q))) ∧ (¬ v_23 = 0 → Ev E m_ne_partFromRest 2 [(0, .ref 1), (1, .int x1), (2, .int (x2 + 1))] [] (gp_sI X_18 5 (Int32.toNatClampNeg x2) 0) (0, 0) Q)))) ∧ ((gI X 4 (Int32.toNatClampNeg x2)) = 0 → Ev E m_ne_partFromRest 2 [(0, .ref 1), (1, .int x1), (2, .int (x2 + 1))] [] X (0, 0) Q)))))) : Ev E m_ne_partFromRest 2 [(0, .ref 1), (1, .int x1), (2, .int x2)] [] X (0, 0) Q := by
  refine ev_iload_n (x := x2) (pc := 2) d_ne_partFromRest_2 rfl ?_
  refine ev_aload_n (x := 1) (pc := 3) d_ne_partFromRest_3 rfl ?_
  refine ev_getJ (v := (gI X 1 1)) (pc := 4) d_ne_partFromRest_4 f_ne_54 (ly_at hX 1 rfl) gg_5 rfl rfl ?_
  refine ev_icmp_ge (pc := 7) (tgt := 67) d_ne_partFromRest_7 (by decide) (fun c_1 => ?_) (fun c_1 => ?_)
  · have h_2 := hh.1 c_1
    refine ev_aload_n (x := 1) (pc := 67) d_ne_partFromRest_67 rfl ?_
    obtain ⟨Qz_4, hc_5, hk_6⟩ := h_2
    refine ev_callV (z := m_ne_joinOpen) (as := []) (rest := []) (pc := 68) d_ne_partFromRest_68 (ly_at hX 1 rfl) lt13_5 rfl l_ne_92 i_ne_joinOpen v_ne_joinOpen o_ne_joinOpen rfl rfl (Nat.le_of_ble_eq_true rfl) rfl (Nat.le_of_ble_eq_true rfl) ⟨Nat.le_of_ble_eq_true rfl, Nat.le_of_ble_eq_true rfl⟩ hc_5 (fun r_8 X_7 hq_9 => ?_)
    obtain ⟨rfl, hX_11, h_10⟩ := hk_6 _ _ hq_9
    show Ev E m_ne_partFromRest 71 [(0, .ref 1), (1, .int x1), (2, .int x2)] [] X_7 (0, 0) Q
    exact ev_ret (pc := 71) ⟨Nat.le_of_ble_eq_true rfl, Nat.le_of_ble_eq_true rfl⟩ d_ne_partFromRest_71 rfl h_10
  · have h_3 := hh.2 c_1
    refine ev_aload_n (x := 1) (pc := 10) d_ne_partFromRest_10 rfl ?_
    refine ev_getR (pc := 11) d_ne_partFromRest_11 f_ne_18 (ly_at hX 1 rfl) gg_5 rfl (ly_rf hX 1 4 rfl) ?_
    refine ev_iload_n (x := x2) (pc := 14) d_ne_partFromRest_14 rfl ?_
    refine ev_zaldJ (v := (gI X 4 (Int32.toNatClampNeg x2))) (pc := 15) d_ne_partFromRest_15 (ly_at hX 4 rfl) h_3.1 rfl ?_
    refine ev_if_ne (pc := 16) (tgt := 22) d_ne_partFromRest_16 (by decide) (fun c_12 => ?_) (fun c_12 => ?_)
    · have h_13 := h_3.2.1 c_12
      refine ev_aload_n (x := 1) (pc := 22) d_ne_partFromRest_22 rfl ?_
      refine ev_iload_n (x := x2) (pc := 23) d_ne_partFromRest_23 rfl ?_
      refine ev_iload_n (x := x1) (pc := 24) d_ne_partFromRest_24 rfl ?_
      obtain ⟨Qz_15, hc_16, hk_17⟩ := h_13
      refine ev_callV (z := m_ne_crosses) (as := [.int x2, .int x1]) (rest := []) (pc := 25) d_ne_partFromRest_25 (ly_at hX 1 rfl) lt13_5 rfl l_ne_89 i_ne_crosses v_ne_crosses o_ne_crosses rfl rfl (Nat.le_of_ble_eq_true rfl) rfl (Nat.le_of_ble_eq_true rfl) ⟨Nat.le_of_ble_eq_true rfl, Nat.le_of_ble_eq_true rfl⟩ hc_16 (fun r_19 X_18 hq_20 => ?_)
      obtain ⟨v_23, rfl, hX_22, h_21⟩ := hk_17 _ _ hq_20
      show Ev E m_ne_partFromRest 28 [(0, .ref 1), (1, .int x1), (2, .int x2)] [.int v_23] X_18 (0, 0) Q
      refine ev_if_eq (pc := 28) (tgt := 41) d_ne_partFromRest_28 (by decide) (fun c_24 => ?_) (fun c_24 => ?_)
      · have h_25 := h_21.1 c_24
        refine ev_iload_n (x := x1) (pc := 41) d_ne_partFromRest_41 rfl ?_
        refine ev_aload_n (x := 1) (pc := 42) d_ne_partFromRest_42 rfl ?_
        refine ev_getR (pc := 43) d_ne_partFromRest_43 f_ne_9 (ly_at hX_22 1 rfl) gg_5 rfl (ly_rf hX_22 1 2 rfl) ?_
        refine ev_iload_n (x := x2) (pc := 46) d_ne_partFromRest_46 rfl ?_
        refine ev_ialdJ (v := (gI X_18 2 (Int32.toNatClampNeg x2))) (pc := 47) d_ne_partFromRest_47 (ly_at hX_22 2 rfl) h_3.1 rfl ?_
        refine ev_callSN (z := m_ga_hasBit) (as := [.int x1, .int (gI X_18 2 (Int32.toNatClampNeg x2))]) (rest := []) (pc := 48) d_ne_partFromRest_48 l_ne_81 i_ga_hasBit o_ga_hasBit rfl rfl (Nat.le_of_ble_eq_true rfl) rfl (Nat.le_of_ble_eq_true rfl) ⟨Nat.le_of_ble_eq_true rfl, Nat.le_of_ble_eq_true rfl⟩ (s_ga_hasBit hX_22 x1 (gI X_18 2 (Int32.toNatClampNeg x2))) (fun r X1 hq => ?_)
        obtain ⟨rfl, rfl⟩ := hq
        show Ev E m_ne_partFromRest 51 [(0, .ref 1), (1, .int x1), (2, .int x2)] [.int (bz (gb x1 (gI X_18 2 (Int32.toNatClampNeg x2))))] X_18 (0, 0) Q
        refine ev_ifz_eq (pc := 51) (tgt := 61) d_ne_partFromRest_51 (by decide) (fun c_27 => ?_) (fun c_27 => ?_)
        · have h_28 := h_25.1 c_27
          refine ev_iinc (v := (x2 + 1)) (L2 := [(0, .ref 1), (1, .int x1), (2, .int (x2 + 1))]) (pc := 61) d_ne_partFromRest_61 rfl (by rw [kc_i_1]) rfl (Nat.le_of_ble_eq_true rfl) rfl ?_
          refine ev_goto (pc := 64) (tgt := 2) d_ne_partFromRest_64 (by decide) ?_
          exact h_28
        · have h_29 := h_25.2 c_27
          refine ev_aload_n (x := 1) (pc := 54) d_ne_partFromRest_54 rfl ?_
          refine ev_getR (pc := 55) d_ne_partFromRest_55 f_ne_22 (ly_at hX_22 1 rfl) gg_5 rfl (ly_rf hX_22 1 5 rfl) ?_
          refine ev_iload_n (x := x2) (pc := 58) d_ne_partFromRest_58 rfl ?_
          refine ev_iconst (v := 1) (pc := 59) d_ne_partFromRest_59 kc_i_1 ?_
          refine ev_zast (pc := 60) d_ne_partFromRest_60 (ly_at hX_22 5 rfl) h_3.1 nb_1 ?_
          refine ev_iinc (v := (x2 + 1)) (L2 := [(0, .ref 1), (1, .int x1), (2, .int (x2 + 1))]) (pc := 61) d_ne_partFromRest_61 rfl (by rw [kc_i_1]) rfl (Nat.le_of_ble_eq_true rfl) rfl ?_
          refine ev_goto (pc := 64) (tgt := 2) d_ne_partFromRest_64 (by decide) ?_
          exact h_29
      · have h_26 := h_21.2 c_24
        refine ev_aload_n (x := 1) (pc := 31) d_ne_partFromRest_31 rfl ?_
        refine ev_getR (pc := 32) d_ne_partFromRest_32 f_ne_22 (ly_at hX_22 1 rfl) gg_5 rfl (ly_rf hX_22 1 5 rfl) ?_
        refine ev_iload_n (x := x2) (pc := 35) d_ne_partFromRest_35 rfl ?_
        refine ev_iconst (v := 0) (pc := 36) d_ne_partFromRest_36 kc_i_0 ?_
        refine ev_zast (pc := 37) d_ne_partFromRest_37 (ly_at hX_22 5 rfl) h_3.1 nb_0 ?_
        refine ev_goto (pc := 38) (tgt := 61) d_ne_partFromRest_38 (by decide) ?_
        refine ev_iinc (v := (x2 + 1)) (L2 := [(0, .ref 1), (1, .int x1), (2, .int (x2 + 1))]) (pc := 61) d_ne_partFromRest_61 rfl (by rw [kc_i_1]) rfl (Nat.le_of_ble_eq_true rfl) rfl ?_
        refine ev_goto (pc := 64) (tgt := 2) d_ne_partFromRest_64 (by decide) ?_
        exact h_26
    · have h_14 := h_3.2.2 c_12
      refine ev_goto (pc := 19) (tgt := 61) d_ne_partFromRest_19 (by decide) ?_
      refine ev_iinc (v := (x2 + 1)) (L2 := [(0, .ref 1), (1, .int x1), (2, .int (x2 + 1))]) (pc := 61) d_ne_partFromRest_61 rfl (by rw [kc_i_1]) rfl (Nat.le_of_ble_eq_true rfl) rfl ?_
      refine ev_goto (pc := 64) (tgt := 2) d_ne_partFromRest_64 (by decide) ?_
      exact h_14
theorem b_ne_burnCoal_0 {E : gp_E} {S : gp_S} {X : gp_H} {Q : Option Value → gp_H → Prop} {x1 : Int32} {x2 : Int32} (hX : Lay S X)  (hh : Ev E m_ne_burnCoal 5 [(0, .ref 1), (1, .int x1), (2, .int x2), (3, .int 0), (4, .int 0)] [] X (0, 0) Q) : Ev E m_ne_burnCoal 0 [(0, .ref 1), (1, .int x1), (2, .int x2)] [] X (0, 0) Q := by
  refine ev_iconst (v := 0) (pc := 0) d_ne_burnCoal_0 kc_i_0 ?_
  refine ev_istore_n (L2 := [(0, .ref 1), (1, .int x1), (2, .int x2), (3, .int 0)]) (pc := 1) d_ne_burnCoal_1 rfl (Nat.le_of_ble_eq_true rfl) rfl ?_
  refine ev_iconst (v := 0) (pc := 2) d_ne_burnCoal_2 kc_i_0 ?_
  refine ev_istore (L2 := [(0, .ref 1), (1, .int x1), (2, .int x2), (3, .int 0), (4, .int 0)]) (pc := 3) d_ne_burnCoal_3 rfl (Nat.le_of_ble_eq_true rfl) rfl ?_
  exact hh
theorem b_ne_burnCoal_5 {E : gp_E} {S : gp_S} {X : gp_H} {Q : Option Value → gp_H → Prop} {x1 : Int32} {x2 : Int32} {x3 : Int32} {x4 : Int32} (hX : Lay S X)  (hh : (((gI X 1 9) ≤ x4 → ((¬ x3 = 0 → Ev E m_ne_burnCoal 58 [(0, .ref 1), (1, .int x1), (2, .int x2), (3, .int x3), (4, .int 0), (5, .int 0)] [] X (0, 0) Q) ∧ (x3 = 0 → Q none X))) ∧ (¬ (gI X 1 9) ≤ x4 → (vp_in x4 5 ∧ (((gI X 11 (Int32.toNatClampNeg x4)) = 0 → Ev E m_ne_burnCoal 5 [(0, .ref 1), (1, .int x1), (2, .int x2), (3, .int x3), (4, .int (x4 + 1))] [] X (0, 0) Q) ∧ (¬ (gI X 11 (Int32.toNatClampNeg x4)) = 0 → (((gb x1 (gI X 8 (Int32.toNatClampNeg x4))) = false → Ev E m_ne_burnCoal 5 [(0, .ref 1), (1, .int x1), (2, .int x2), (3, .int x3), (4, .int (x4 + 1))] [] X (0, 0) Q) ∧ ((gb x1 (gI X 8 (Int32.toNatClampNeg x4))) = true → Ev E m_ne_burnCoal 5 [(0, .ref 1), (1, .int x1), (2, .int x2), (3, .int (x3 + 1)), (4, .int (x4 + 1))] [] X (0, 0) Q)))))))) : Ev E m_ne_burnCoal 5 [(0, .ref 1), (1, .int x1), (2, .int x2), (3, .int x3), (4, .int x4)] [] X (0, 0) Q := by
  refine ev_iload (x := x4) (pc := 5) d_ne_burnCoal_5 rfl ?_
  refine ev_aload_n (x := 1) (pc := 7) d_ne_burnCoal_7 rfl ?_
  refine ev_getJ (v := (gI X 1 9)) (pc := 8) d_ne_burnCoal_8 f_ne_57 (ly_at hX 1 rfl) gg_5 rfl rfl ?_
  refine ev_icmp_ge (pc := 11) (tgt := 47) d_ne_burnCoal_11 (by decide) (fun c_1 => ?_) (fun c_1 => ?_)
  · have h_2 := hh.1 c_1
    refine ev_iload_n (x := x3) (pc := 47) d_ne_burnCoal_47 rfl ?_
    refine ev_if_ne (pc := 48) (tgt := 52) d_ne_burnCoal_48 (by decide) (fun c_4 => ?_) (fun c_4 => ?_)
    · have h_5 := h_2.1 c_4
      refine ev_iconst (v := 0) (pc := 52) d_ne_burnCoal_52 kc_i_0 ?_
      refine ev_istore (L2 := [(0, .ref 1), (1, .int x1), (2, .int x2), (3, .int x3), (4, .int 0)]) (pc := 53) d_ne_burnCoal_53 rfl (Nat.le_of_ble_eq_true rfl) rfl ?_
      refine ev_iconst (v := 0) (pc := 55) d_ne_burnCoal_55 kc_i_0 ?_
      refine ev_istore (L2 := [(0, .ref 1), (1, .int x1), (2, .int x2), (3, .int x3), (4, .int 0), (5, .int 0)]) (pc := 56) d_ne_burnCoal_56 rfl (Nat.le_of_ble_eq_true rfl) rfl ?_
      exact h_5
    · have h_6 := h_2.2 c_4
      exact ev_ret (pc := 51) ⟨Nat.le_of_ble_eq_true rfl, Nat.le_of_ble_eq_true rfl⟩ d_ne_burnCoal_51 rfl h_6
  · have h_3 := hh.2 c_1
    refine ev_aload_n (x := 1) (pc := 14) d_ne_burnCoal_14 rfl ?_
    refine ev_getR (pc := 15) d_ne_burnCoal_15 f_ne_44 (ly_at hX 1 rfl) gg_5 rfl (ly_rf hX 1 13 rfl) ?_
    refine ev_iload (x := x4) (pc := 18) d_ne_burnCoal_18 rfl ?_
    refine ev_zaldJ (v := (gI X 11 (Int32.toNatClampNeg x4))) (pc := 20) d_ne_burnCoal_20 (ly_at hX 11 rfl) h_3.1 rfl ?_
    refine ev_if_eq (pc := 21) (tgt := 41) d_ne_burnCoal_21 (by decide) (fun c_7 => ?_) (fun c_7 => ?_)
    · have h_8 := h_3.2.1 c_7
      refine ev_iinc (v := (x4 + 1)) (L2 := [(0, .ref 1), (1, .int x1), (2, .int x2), (3, .int x3), (4, .int (x4 + 1))]) (pc := 41) d_ne_burnCoal_41 rfl (by rw [kc_i_1]) rfl (Nat.le_of_ble_eq_true rfl) rfl ?_
      refine ev_goto (pc := 44) (tgt := 5) d_ne_burnCoal_44 (by decide) ?_
      exact h_8
    · have h_9 := h_3.2.2 c_7
      refine ev_iload_n (x := x1) (pc := 24) d_ne_burnCoal_24 rfl ?_
      refine ev_aload_n (x := 1) (pc := 25) d_ne_burnCoal_25 rfl ?_
      refine ev_getR (pc := 26) d_ne_burnCoal_26 f_ne_35 (ly_at hX 1 rfl) gg_5 rfl (ly_rf hX 1 10 rfl) ?_
      refine ev_iload (x := x4) (pc := 29) d_ne_burnCoal_29 rfl ?_
      refine ev_ialdJ (v := (gI X 8 (Int32.toNatClampNeg x4))) (pc := 31) d_ne_burnCoal_31 (ly_at hX 8 rfl) h_3.1 rfl ?_
      refine ev_callSN (z := m_ga_hasBit) (as := [.int x1, .int (gI X 8 (Int32.toNatClampNeg x4))]) (rest := []) (pc := 32) d_ne_burnCoal_32 l_ne_81 i_ga_hasBit o_ga_hasBit rfl rfl (Nat.le_of_ble_eq_true rfl) rfl (Nat.le_of_ble_eq_true rfl) ⟨Nat.le_of_ble_eq_true rfl, Nat.le_of_ble_eq_true rfl⟩ (s_ga_hasBit hX x1 (gI X 8 (Int32.toNatClampNeg x4))) (fun r X1 hq => ?_)
      obtain ⟨rfl, rfl⟩ := hq
      show Ev E m_ne_burnCoal 35 [(0, .ref 1), (1, .int x1), (2, .int x2), (3, .int x3), (4, .int x4)] [.int (bz (gb x1 (gI X 8 (Int32.toNatClampNeg x4))))] X (0, 0) Q
      refine ev_ifz_eq (pc := 35) (tgt := 41) d_ne_burnCoal_35 (by decide) (fun c_10 => ?_) (fun c_10 => ?_)
      · have h_11 := h_9.1 c_10
        refine ev_iinc (v := (x4 + 1)) (L2 := [(0, .ref 1), (1, .int x1), (2, .int x2), (3, .int x3), (4, .int (x4 + 1))]) (pc := 41) d_ne_burnCoal_41 rfl (by rw [kc_i_1]) rfl (Nat.le_of_ble_eq_true rfl) rfl ?_
        refine ev_goto (pc := 44) (tgt := 5) d_ne_burnCoal_44 (by decide) ?_
        exact h_11
      · have h_12 := h_9.2 c_10
        refine ev_iinc (v := (x3 + 1)) (L2 := [(0, .ref 1), (1, .int x1), (2, .int x2), (3, .int (x3 + 1)), (4, .int x4)]) (pc := 38) d_ne_burnCoal_38 rfl (by rw [kc_i_1]) rfl (Nat.le_of_ble_eq_true rfl) rfl ?_
        refine ev_iinc (v := (x4 + 1)) (L2 := [(0, .ref 1), (1, .int x1), (2, .int x2), (3, .int (x3 + 1)), (4, .int (x4 + 1))]) (pc := 41) d_ne_burnCoal_41 rfl (by rw [kc_i_1]) rfl (Nat.le_of_ble_eq_true rfl) rfl ?_
        refine ev_goto (pc := 44) (tgt := 5) d_ne_burnCoal_44 (by decide) ?_
        exact h_12
theorem b_ne_burnCoal_58 {E : gp_E} {S : gp_S} {X : gp_H} {Q : Option Value → gp_H → Prop} {x1 : Int32} {x2 : Int32} {x3 : Int32} {x4 : Int32} {x5 : Int32} (hX : Lay S X)  (hh : (((gI X 1 9) ≤ x5 → Q none X) ∧ (¬ (gI X 1 9) ≤ x5 → (vp_in x5 5 ∧ (((gI X 11 (Int32.toNatClampNeg x5)) = 0 → Ev E m_ne_burnCoal 58 [(0, .ref 1), (1, .int x1), (2, .int x2), (3, .int x3), (4, .int x4), (5, .int (x5 + 1))] [] X (0, 0) Q) ∧ (¬ (gI X 11 (Int32.toNatClampNeg x5)) = 0 → (((gb x1 (gI X 8 (Int32.toNatClampNeg x5))) = true → (¬ x3 = 0 ∧ (¬ x3 = 0 ∧ (((x2 - x2 / x3 * x3) ≤ x4 → Ev E m_ne_burnCoal 110 [(0, .ref 1), (1, .int x1), (2, .int x2), (3, .int x3), (4, .int x4), (5, .int x5)] [.int 0, .int (x2 / x3)] X (0, 0) Q) ∧ (¬ (x2 - x2 / x3 * x3) ≤ x4 → Ev E m_ne_burnCoal 110 [(0, .ref 1), (1, .int x1), (2, .int x2), (3, .int x3), (4, .int x4), (5, .int x5)] [.int 1, .int (x2 / x3)] X (0, 0) Q))))) ∧ ((gb x1 (gI X 8 (Int32.toNatClampNeg x5))) = false → Ev E m_ne_burnCoal 58 [(0, .ref 1), (1, .int x1), (2, .int x2), (3, .int x3), (4, .int x4), (5, .int (x5 + 1))] [] X (0, 0) Q)))))))) : Ev E m_ne_burnCoal 58 [(0, .ref 1), (1, .int x1), (2, .int x2), (3, .int x3), (4, .int x4), (5, .int x5)] [] X (0, 0) Q := by
  refine ev_iload (x := x5) (pc := 58) d_ne_burnCoal_58 rfl ?_
  refine ev_aload_n (x := 1) (pc := 60) d_ne_burnCoal_60 rfl ?_
  refine ev_getJ (v := (gI X 1 9)) (pc := 61) d_ne_burnCoal_61 f_ne_57 (ly_at hX 1 rfl) gg_5 rfl rfl ?_
  refine ev_icmp_ge (pc := 64) (tgt := 136) d_ne_burnCoal_64 (by decide) (fun c_1 => ?_) (fun c_1 => ?_)
  · have h_2 := hh.1 c_1
    exact ev_ret (pc := 136) ⟨Nat.le_of_ble_eq_true rfl, Nat.le_of_ble_eq_true rfl⟩ d_ne_burnCoal_136 rfl h_2
  · have h_3 := hh.2 c_1
    refine ev_aload_n (x := 1) (pc := 67) d_ne_burnCoal_67 rfl ?_
    refine ev_getR (pc := 68) d_ne_burnCoal_68 f_ne_44 (ly_at hX 1 rfl) gg_5 rfl (ly_rf hX 1 13 rfl) ?_
    refine ev_iload (x := x5) (pc := 71) d_ne_burnCoal_71 rfl ?_
    refine ev_zaldJ (v := (gI X 11 (Int32.toNatClampNeg x5))) (pc := 73) d_ne_burnCoal_73 (ly_at hX 11 rfl) h_3.1 rfl ?_
    refine ev_if_eq (pc := 74) (tgt := 130) d_ne_burnCoal_74 (by decide) (fun c_4 => ?_) (fun c_4 => ?_)
    · have h_5 := h_3.2.1 c_4
      refine ev_iinc (v := (x5 + 1)) (L2 := [(0, .ref 1), (1, .int x1), (2, .int x2), (3, .int x3), (4, .int x4), (5, .int (x5 + 1))]) (pc := 130) d_ne_burnCoal_130 rfl (by rw [kc_i_1]) rfl (Nat.le_of_ble_eq_true rfl) rfl ?_
      refine ev_goto (pc := 133) (tgt := 58) d_ne_burnCoal_133 (by decide) ?_
      exact h_5
    · have h_6 := h_3.2.2 c_4
      refine ev_iload_n (x := x1) (pc := 77) d_ne_burnCoal_77 rfl ?_
      refine ev_aload_n (x := 1) (pc := 78) d_ne_burnCoal_78 rfl ?_
      refine ev_getR (pc := 79) d_ne_burnCoal_79 f_ne_35 (ly_at hX 1 rfl) gg_5 rfl (ly_rf hX 1 10 rfl) ?_
      refine ev_iload (x := x5) (pc := 82) d_ne_burnCoal_82 rfl ?_
      refine ev_ialdJ (v := (gI X 8 (Int32.toNatClampNeg x5))) (pc := 84) d_ne_burnCoal_84 (ly_at hX 8 rfl) h_3.1 rfl ?_
      refine ev_callSN (z := m_ga_hasBit) (as := [.int x1, .int (gI X 8 (Int32.toNatClampNeg x5))]) (rest := []) (pc := 85) d_ne_burnCoal_85 l_ne_81 i_ga_hasBit o_ga_hasBit rfl rfl (Nat.le_of_ble_eq_true rfl) rfl (Nat.le_of_ble_eq_true rfl) ⟨Nat.le_of_ble_eq_true rfl, Nat.le_of_ble_eq_true rfl⟩ (s_ga_hasBit hX x1 (gI X 8 (Int32.toNatClampNeg x5))) (fun r X1 hq => ?_)
      obtain ⟨rfl, rfl⟩ := hq
      show Ev E m_ne_burnCoal 88 [(0, .ref 1), (1, .int x1), (2, .int x2), (3, .int x3), (4, .int x4), (5, .int x5)] [.int (bz (gb x1 (gI X 8 (Int32.toNatClampNeg x5))))] X (0, 0) Q
      refine ev_ifz_ne (pc := 88) (tgt := 94) d_ne_burnCoal_88 (by decide) (fun c_7 => ?_) (fun c_7 => ?_)
      · have h_8 := h_6.1 c_7
        refine ev_iload_n (x := x2) (pc := 94) d_ne_burnCoal_94 rfl ?_
        refine ev_iload_n (x := x3) (pc := 95) d_ne_burnCoal_95 rfl ?_
        refine ev_idiv (pc := 96) d_ne_burnCoal_96 h_8.1 ?_
        refine ev_iload (x := x4) (pc := 97) d_ne_burnCoal_97 rfl ?_
        refine ev_iload_n (x := x2) (pc := 99) d_ne_burnCoal_99 rfl ?_
        refine ev_iload_n (x := x3) (pc := 100) d_ne_burnCoal_100 rfl ?_
        refine ev_irem (pc := 101) d_ne_burnCoal_101 h_8.2.1 ?_
        refine ev_icmp_ge (pc := 102) (tgt := 109) d_ne_burnCoal_102 (by decide) (fun c_10 => ?_) (fun c_10 => ?_)
        · have h_11 := h_8.2.2.1 c_10
          refine ev_iconst (v := 0) (pc := 109) d_ne_burnCoal_109 kc_i_0 ?_
          exact h_11
        · have h_12 := h_8.2.2.2 c_10
          refine ev_iconst (v := 1) (pc := 105) d_ne_burnCoal_105 kc_i_1 ?_
          refine ev_goto (pc := 106) (tgt := 110) d_ne_burnCoal_106 (by decide) ?_
          exact h_12
      · have h_9 := h_6.2 c_7
        refine ev_goto (pc := 91) (tgt := 130) d_ne_burnCoal_91 (by decide) ?_
        refine ev_iinc (v := (x5 + 1)) (L2 := [(0, .ref 1), (1, .int x1), (2, .int x2), (3, .int x3), (4, .int x4), (5, .int (x5 + 1))]) (pc := 130) d_ne_burnCoal_130 rfl (by rw [kc_i_1]) rfl (Nat.le_of_ble_eq_true rfl) rfl ?_
        refine ev_goto (pc := 133) (tgt := 58) d_ne_burnCoal_133 (by decide) ?_
        exact h_9
theorem b_ne_burnCoal_110 {E : gp_E} {S : gp_S} {X : gp_H} {Q : Option Value → gp_H → Prop} {x1 : Int32} {x2 : Int32} {x3 : Int32} {x4 : Int32} {x5 : Int32} {t0 : Int32} {t1 : Int32} (hX : Lay S X)  (hh : (∃ Qz_1, Ev E m_ne_burnPart 0 [(0, .ref 1), (1, .int x5), (2, .int (((t1 + t0) + 9) / 10))] [] X (0, 0) Qz_1 ∧ ∀ r X_4, Qz_1 r X_4 → (r = none ∧ Lay S X_4 ∧ Ev E m_ne_burnCoal 58 [(0, .ref 1), (1, .int x1), (2, .int x2), (3, .int x3), (4, .int (x4 + 1)), (5, .int (x5 + 1))] [] X_4 (0, 0) Q))) : Ev E m_ne_burnCoal 110 [(0, .ref 1), (1, .int x1), (2, .int x2), (3, .int x3), (4, .int x4), (5, .int x5)] [.int t0, .int t1] X (0, 0) Q := by
  refine ev_iadd (pc := 110) d_ne_burnCoal_110 ?_
  refine ev_istore (L2 := [(0, .ref 1), (1, .int x1), (2, .int x2), (3, .int x3), (4, .int x4), (5, .int x5), (6, .int (t1 + t0))]) (pc := 111) d_ne_burnCoal_111 rfl (Nat.le_of_ble_eq_true rfl) rfl ?_
  refine ev_iinc (v := (x4 + 1)) (L2 := [(0, .ref 1), (1, .int x1), (2, .int x2), (3, .int x3), (4, .int (x4 + 1)), (5, .int x5), (6, .int (t1 + t0))]) (pc := 113) d_ne_burnCoal_113 rfl (by rw [kc_i_1]) rfl (Nat.le_of_ble_eq_true rfl) rfl ?_
  refine ev_aload_n (x := 1) (pc := 116) d_ne_burnCoal_116 rfl ?_
  refine ev_iload (x := x5) (pc := 117) d_ne_burnCoal_117 rfl ?_
  refine ev_iload (x := (t1 + t0)) (pc := 119) d_ne_burnCoal_119 rfl ?_
  refine ev_bipush (v := 9) (pc := 121) d_ne_burnCoal_121 kc_b_9 ?_
  refine ev_iadd (pc := 123) d_ne_burnCoal_123 ?_
  refine ev_bipush (v := 10) (pc := 124) d_ne_burnCoal_124 kc_b_10 ?_
  refine ev_idiv (pc := 126) d_ne_burnCoal_126 (by decide) ?_
  obtain ⟨Qz_1, hc_2, hk_3⟩ := hh
  refine ev_callV (z := m_ne_burnPart) (as := [.int x5, .int (((t1 + t0) + 9) / 10)]) (rest := []) (pc := 127) d_ne_burnCoal_127 (ly_at hX 1 rfl) lt13_5 rfl l_ne_85 i_ne_burnPart v_ne_burnPart o_ne_burnPart rfl rfl (Nat.le_of_ble_eq_true rfl) rfl (Nat.le_of_ble_eq_true rfl) ⟨Nat.le_of_ble_eq_true rfl, Nat.le_of_ble_eq_true rfl⟩ hc_2 (fun r_5 X_4 hq_6 => ?_)
  obtain ⟨rfl, hX_8, h_7⟩ := hk_3 _ _ hq_6
  show Ev E m_ne_burnCoal 130 [(0, .ref 1), (1, .int x1), (2, .int x2), (3, .int x3), (4, .int (x4 + 1)), (5, .int x5), (6, .int (t1 + t0))] [] X_4 (0, 0) Q
  refine ev_iinc (v := (x5 + 1)) (L2 := [(0, .ref 1), (1, .int x1), (2, .int x2), (3, .int x3), (4, .int (x4 + 1)), (5, .int (x5 + 1)), (6, .int (t1 + t0))]) (pc := 130) d_ne_burnCoal_130 rfl (by rw [kc_i_1]) rfl (Nat.le_of_ble_eq_true rfl) rfl ?_
  refine ev_goto (pc := 133) (tgt := 58) d_ne_burnCoal_133 (by decide) ?_
  exact ev_sub [(0, .ref 1), (1, .int x1), (2, .int x2), (3, .int x3), (4, .int (x4 + 1)), (5, .int (x5 + 1))] (List.forall_mem_cons.mpr ⟨rfl, (List.forall_mem_cons.mpr ⟨rfl, (List.forall_mem_cons.mpr ⟨rfl, (List.forall_mem_cons.mpr ⟨rfl, (List.forall_mem_cons.mpr ⟨rfl, (List.forall_mem_cons.mpr ⟨rfl, (fun _ h => nomatch h)⟩)⟩)⟩)⟩)⟩)⟩) h_7
theorem b_ne_burnPart_0 {E : gp_E} {S : gp_S} {X : gp_H} {Q : Option Value → gp_H → Prop} {x1 : Int32} {x2 : Int32} (hX : Lay S X)  (hh : (vp_in x1 5 ∧ (((gI X 10 (Int32.toNatClampNeg x1)) < x2 → Q none (gp_sI (gp_sI X 10 (Int32.toNatClampNeg x1) 0) 11 (Int32.toNatClampNeg x1) 0)) ∧ (¬ (gI X 10 (Int32.toNatClampNeg x1)) < x2 → Q none (gp_sI X 10 (Int32.toNatClampNeg x1) ((gI X 10 (Int32.toNatClampNeg x1)) - x2)))))) : Ev E m_ne_burnPart 0 [(0, .ref 1), (1, .int x1), (2, .int x2)] [] X (0, 0) Q := by
  refine ev_aload_n (x := 1) (pc := 0) d_ne_burnPart_0 rfl ?_
  refine ev_getR (pc := 1) d_ne_burnPart_1 f_ne_41 (ly_at hX 1 rfl) gg_5 rfl (ly_rf hX 1 12 rfl) ?_
  refine ev_iload_n (x := x1) (pc := 4) d_ne_burnPart_4 rfl ?_
  refine ev_ialdJ (v := (gI X 10 (Int32.toNatClampNeg x1))) (pc := 5) d_ne_burnPart_5 (ly_at hX 10 rfl) hh.1 rfl ?_
  refine ev_iload_n (x := x2) (pc := 6) d_ne_burnPart_6 rfl ?_
  refine ev_icmp_lt (pc := 7) (tgt := 23) d_ne_burnPart_7 (by decide) (fun c_1 => ?_) (fun c_1 => ?_)
  · have h_2 := hh.2.1 c_1
    refine ev_aload_n (x := 1) (pc := 23) d_ne_burnPart_23 rfl ?_
    refine ev_getR (pc := 24) d_ne_burnPart_24 f_ne_41 (ly_at hX 1 rfl) gg_5 rfl (ly_rf hX 1 12 rfl) ?_
    refine ev_iload_n (x := x1) (pc := 27) d_ne_burnPart_27 rfl ?_
    refine ev_iconst (v := 0) (pc := 28) d_ne_burnPart_28 kc_i_0 ?_
    refine ev_iast (pc := 29) d_ne_burnPart_29 (ly_at hX 10 rfl) hh.1 ?_
    refine ev_aload_n (x := 1) (pc := 30) d_ne_burnPart_30 rfl ?_
    refine ev_getR (pc := 31) d_ne_burnPart_31 f_ne_44 (ly_at (ly_sI hX) 1 rfl) gg_5 rfl (ly_rf (ly_sI hX) 1 13 rfl) ?_
    refine ev_iload_n (x := x1) (pc := 34) d_ne_burnPart_34 rfl ?_
    refine ev_iconst (v := 0) (pc := 35) d_ne_burnPart_35 kc_i_0 ?_
    refine ev_zast (pc := 36) d_ne_burnPart_36 (ly_at (ly_sI hX) 11 rfl) hh.1 nb_0 ?_
    exact ev_ret (pc := 37) ⟨Nat.le_of_ble_eq_true rfl, Nat.le_of_ble_eq_true rfl⟩ d_ne_burnPart_37 rfl h_2
  · have h_3 := hh.2.2 c_1
    refine ev_aload_n (x := 1) (pc := 10) d_ne_burnPart_10 rfl ?_
    refine ev_getR (pc := 11) d_ne_burnPart_11 f_ne_41 (ly_at hX 1 rfl) gg_5 rfl (ly_rf hX 1 12 rfl) ?_
    refine ev_iload_n (x := x1) (pc := 14) d_ne_burnPart_14 rfl ?_
    refine ev_dup2 (pc := 15) d_ne_burnPart_15 rfl rfl ?_
    refine ev_ialdJ (v := (gI X 10 (Int32.toNatClampNeg x1))) (pc := 16) d_ne_burnPart_16 (ly_at hX 10 rfl) hh.1 rfl ?_
    refine ev_iload_n (x := x2) (pc := 17) d_ne_burnPart_17 rfl ?_
    refine ev_isub (pc := 18) d_ne_burnPart_18 ?_
    refine ev_iast (pc := 19) d_ne_burnPart_19 (ly_at hX 10 rfl) hh.1 ?_
    refine ev_goto (pc := 20) (tgt := 37) d_ne_burnPart_20 (by decide) ?_
    exact ev_ret (pc := 37) ⟨Nat.le_of_ble_eq_true rfl, Nat.le_of_ble_eq_true rfl⟩ d_ne_burnPart_37 rfl h_3
theorem b_ne_fewestPipes_0 {E : gp_E} {S : gp_S} {X : gp_H} {Q : Option Value → gp_H → Prop} {x1 : Int32} {x2 : Int32} (hX : Lay S X)  (hh : Ev E m_ne_fewestPipes 7 [(0, .ref 1), (1, .int x1), (2, .int x2), (3, .int ((1 : Int32) <<< (x1 &&& 31))), (4, .int 0)] [] X (0, 0) Q) : Ev E m_ne_fewestPipes 0 [(0, .ref 1), (1, .int x1), (2, .int x2)] [] X (0, 0) Q := by
  refine ev_iconst (v := 1) (pc := 0) d_ne_fewestPipes_0 kc_i_1 ?_
  refine ev_iload_n (x := x1) (pc := 1) d_ne_fewestPipes_1 rfl ?_
  refine ev_ishl (pc := 2) d_ne_fewestPipes_2 ?_
  refine ev_istore_n (L2 := [(0, .ref 1), (1, .int x1), (2, .int x2), (3, .int ((1 : Int32) <<< (x1 &&& 31)))]) (pc := 3) d_ne_fewestPipes_3 rfl (Nat.le_of_ble_eq_true rfl) rfl ?_
  refine ev_iconst (v := 0) (pc := 4) d_ne_fewestPipes_4 kc_i_0 ?_
  refine ev_istore (L2 := [(0, .ref 1), (1, .int x1), (2, .int x2), (3, .int ((1 : Int32) <<< (x1 &&& 31))), (4, .int 0)]) (pc := 5) d_ne_fewestPipes_5 rfl (Nat.le_of_ble_eq_true rfl) rfl ?_
  exact hh
theorem b_ne_fewestPipes_7 {E : gp_E} {S : gp_S} {X : gp_H} {Q : Option Value → gp_H → Prop} {x1 : Int32} {x2 : Int32} {x3 : Int32} {x4 : Int32} (hX : Lay S X)  (hh : ((12 ≤ x4 → Q (some (.int (-1))) X) ∧ (¬ 12 ≤ x4 → (((gb x3 x2) = false → Ev E m_ne_fewestPipes 31 [(0, .ref 1), (1, .int x1), (2, .int x2), (3, .int x3), (4, .int x4), (5, .int x3), (6, .int 0)] [] X (0, 0) Q) ∧ ((gb x3 x2) = true → Q (some (.int x4)) X))))) : Ev E m_ne_fewestPipes 7 [(0, .ref 1), (1, .int x1), (2, .int x2), (3, .int x3), (4, .int x4)] [] X (0, 0) Q := by
  refine ev_iload (x := x4) (pc := 7) d_ne_fewestPipes_7 rfl ?_
  refine ev_bipush (v := 12) (pc := 9) d_ne_fewestPipes_9 kc_b_12 ?_
  refine ev_icmp_ge (pc := 11) (tgt := 76) d_ne_fewestPipes_11 (by decide) (fun c_1 => ?_) (fun c_1 => ?_)
  · have h_2 := hh.1 c_1
    refine ev_iconst (v := (-1)) (pc := 76) d_ne_fewestPipes_76 kc_i_m1 ?_
    exact ev_iret (pc := 77) ⟨Nat.le_of_ble_eq_true rfl, Nat.le_of_ble_eq_true rfl⟩ d_ne_fewestPipes_77 rfl (vp_nar_int _) h_2
  · have h_3 := hh.2 c_1
    refine ev_iload_n (x := x3) (pc := 14) d_ne_fewestPipes_14 rfl ?_
    refine ev_iload_n (x := x2) (pc := 15) d_ne_fewestPipes_15 rfl ?_
    refine ev_callSN (z := m_ga_hasBit) (as := [.int x3, .int x2]) (rest := []) (pc := 16) d_ne_fewestPipes_16 l_ne_81 i_ga_hasBit o_ga_hasBit rfl rfl (Nat.le_of_ble_eq_true rfl) rfl (Nat.le_of_ble_eq_true rfl) ⟨Nat.le_of_ble_eq_true rfl, Nat.le_of_ble_eq_true rfl⟩ (s_ga_hasBit hX x3 x2) (fun r X1 hq => ?_)
    obtain ⟨rfl, rfl⟩ := hq
    show Ev E m_ne_fewestPipes 19 [(0, .ref 1), (1, .int x1), (2, .int x2), (3, .int x3), (4, .int x4)] [.int (bz (gb x3 x2))] X (0, 0) Q
    refine ev_ifz_eq (pc := 19) (tgt := 25) d_ne_fewestPipes_19 (by decide) (fun c_4 => ?_) (fun c_4 => ?_)
    · have h_5 := h_3.1 c_4
      refine ev_iload_n (x := x3) (pc := 25) d_ne_fewestPipes_25 rfl ?_
      refine ev_istore (L2 := [(0, .ref 1), (1, .int x1), (2, .int x2), (3, .int x3), (4, .int x4), (5, .int x3)]) (pc := 26) d_ne_fewestPipes_26 rfl (Nat.le_of_ble_eq_true rfl) rfl ?_
      refine ev_iconst (v := 0) (pc := 28) d_ne_fewestPipes_28 kc_i_0 ?_
      refine ev_istore (L2 := [(0, .ref 1), (1, .int x1), (2, .int x2), (3, .int x3), (4, .int x4), (5, .int x3), (6, .int 0)]) (pc := 29) d_ne_fewestPipes_29 rfl (Nat.le_of_ble_eq_true rfl) rfl ?_
      exact h_5
    · have h_6 := h_3.2 c_4
      refine ev_iload (x := x4) (pc := 22) d_ne_fewestPipes_22 rfl ?_
      exact ev_iret (pc := 24) ⟨Nat.le_of_ble_eq_true rfl, Nat.le_of_ble_eq_true rfl⟩ d_ne_fewestPipes_24 rfl (vp_nar_int _) h_6
theorem b_ne_fewestPipes_31 {E : gp_E} {S : gp_S} {X : gp_H} {Q : Option Value → gp_H → Prop} {x1 : Int32} {x2 : Int32} {x3 : Int32} {x4 : Int32} {x5 : Int32} {x6 : Int32} (hX : Lay S X)  (hh : (((gI X 1 0) ≤ x6 → Ev E m_ne_fewestPipes 7 [(0, .ref 1), (1, .int x1), (2, .int x2), (3, .int x5), (4, .int (x4 + 1))] [] X (0, 0) Q) ∧ (¬ (gI X 1 0) ≤ x6 → (((gb x3 x6) = false → Ev E m_ne_fewestPipes 31 [(0, .ref 1), (1, .int x1), (2, .int x2), (3, .int x3), (4, .int x4), (5, .int x5), (6, .int (x6 + 1))] [] X (0, 0) Q) ∧ ((gb x3 x6) = true → (vp_in x6 12 ∧ Ev E m_ne_fewestPipes 31 [(0, .ref 1), (1, .int x1), (2, .int x2), (3, .int x3), (4, .int x4), (5, .int (x5 ||| (gI X 6 (Int32.toNatClampNeg x6)))), (6, .int (x6 + 1))] [] X (0, 0) Q)))))) : Ev E m_ne_fewestPipes 31 [(0, .ref 1), (1, .int x1), (2, .int x2), (3, .int x3), (4, .int x4), (5, .int x5), (6, .int x6)] [] X (0, 0) Q := by
  refine ev_iload (x := x6) (pc := 31) d_ne_fewestPipes_31 rfl ?_
  refine ev_aload_n (x := 1) (pc := 33) d_ne_fewestPipes_33 rfl ?_
  refine ev_getJ (v := (gI X 1 0)) (pc := 34) d_ne_fewestPipes_34 f_ne_47 (ly_at hX 1 rfl) gg_5 rfl rfl ?_
  refine ev_icmp_ge (pc := 37) (tgt := 67) d_ne_fewestPipes_37 (by decide) (fun c_1 => ?_) (fun c_1 => ?_)
  · have h_2 := hh.1 c_1
    refine ev_iload (x := x5) (pc := 67) d_ne_fewestPipes_67 rfl ?_
    refine ev_istore_n (L2 := [(0, .ref 1), (1, .int x1), (2, .int x2), (3, .int x5), (4, .int x4), (5, .int x5), (6, .int x6)]) (pc := 69) d_ne_fewestPipes_69 rfl (Nat.le_of_ble_eq_true rfl) rfl ?_
    refine ev_iinc (v := (x4 + 1)) (L2 := [(0, .ref 1), (1, .int x1), (2, .int x2), (3, .int x5), (4, .int (x4 + 1)), (5, .int x5), (6, .int x6)]) (pc := 70) d_ne_fewestPipes_70 rfl (by rw [kc_i_1]) rfl (Nat.le_of_ble_eq_true rfl) rfl ?_
    refine ev_goto (pc := 73) (tgt := 7) d_ne_fewestPipes_73 (by decide) ?_
    exact ev_sub [(0, .ref 1), (1, .int x1), (2, .int x2), (3, .int x5), (4, .int (x4 + 1))] (List.forall_mem_cons.mpr ⟨rfl, (List.forall_mem_cons.mpr ⟨rfl, (List.forall_mem_cons.mpr ⟨rfl, (List.forall_mem_cons.mpr ⟨rfl, (List.forall_mem_cons.mpr ⟨rfl, (fun _ h => nomatch h)⟩)⟩)⟩)⟩)⟩) h_2
  · have h_3 := hh.2 c_1
    refine ev_iload_n (x := x3) (pc := 40) d_ne_fewestPipes_40 rfl ?_
    refine ev_iload (x := x6) (pc := 41) d_ne_fewestPipes_41 rfl ?_
    refine ev_callSN (z := m_ga_hasBit) (as := [.int x3, .int x6]) (rest := []) (pc := 43) d_ne_fewestPipes_43 l_ne_81 i_ga_hasBit o_ga_hasBit rfl rfl (Nat.le_of_ble_eq_true rfl) rfl (Nat.le_of_ble_eq_true rfl) ⟨Nat.le_of_ble_eq_true rfl, Nat.le_of_ble_eq_true rfl⟩ (s_ga_hasBit hX x3 x6) (fun r X1 hq => ?_)
    obtain ⟨rfl, rfl⟩ := hq
    show Ev E m_ne_fewestPipes 46 [(0, .ref 1), (1, .int x1), (2, .int x2), (3, .int x3), (4, .int x4), (5, .int x5), (6, .int x6)] [.int (bz (gb x3 x6))] X (0, 0) Q
    refine ev_ifz_eq (pc := 46) (tgt := 61) d_ne_fewestPipes_46 (by decide) (fun c_4 => ?_) (fun c_4 => ?_)
    · have h_5 := h_3.1 c_4
      refine ev_iinc (v := (x6 + 1)) (L2 := [(0, .ref 1), (1, .int x1), (2, .int x2), (3, .int x3), (4, .int x4), (5, .int x5), (6, .int (x6 + 1))]) (pc := 61) d_ne_fewestPipes_61 rfl (by rw [kc_i_1]) rfl (Nat.le_of_ble_eq_true rfl) rfl ?_
      refine ev_goto (pc := 64) (tgt := 31) d_ne_fewestPipes_64 (by decide) ?_
      exact h_5
    · have h_6 := h_3.2 c_4
      refine ev_iload (x := x5) (pc := 49) d_ne_fewestPipes_49 rfl ?_
      refine ev_aload_n (x := 1) (pc := 51) d_ne_fewestPipes_51 rfl ?_
      refine ev_getR (pc := 52) d_ne_fewestPipes_52 f_ne_25 (ly_at hX 1 rfl) gg_5 rfl (ly_rf hX 1 6 rfl) ?_
      refine ev_iload (x := x6) (pc := 55) d_ne_fewestPipes_55 rfl ?_
      refine ev_ialdJ (v := (gI X 6 (Int32.toNatClampNeg x6))) (pc := 57) d_ne_fewestPipes_57 (ly_at hX 6 rfl) h_6.1 rfl ?_
      refine ev_ior (pc := 58) d_ne_fewestPipes_58 ?_
      refine ev_istore (L2 := [(0, .ref 1), (1, .int x1), (2, .int x2), (3, .int x3), (4, .int x4), (5, .int (x5 ||| (gI X 6 (Int32.toNatClampNeg x6)))), (6, .int x6)]) (pc := 59) d_ne_fewestPipes_59 rfl (Nat.le_of_ble_eq_true rfl) rfl ?_
      refine ev_iinc (v := (x6 + 1)) (L2 := [(0, .ref 1), (1, .int x1), (2, .int x2), (3, .int x3), (4, .int x4), (5, .int (x5 ||| (gI X 6 (Int32.toNatClampNeg x6)))), (6, .int (x6 + 1))]) (pc := 61) d_ne_fewestPipes_61 rfl (by rw [kc_i_1]) rfl (Nat.le_of_ble_eq_true rfl) rfl ?_
      refine ev_goto (pc := 64) (tgt := 31) d_ne_fewestPipes_64 (by decide) ?_
      exact h_6.2
theorem b_ne_shutValves_0 {E : gp_E} {S : gp_S} {X : gp_H} {Q : Option Value → gp_H → Prop}  (hX : Lay S X)  (hh : Ev E m_ne_shutValves 4 [(0, .ref 1), (1, .int 0), (2, .int 0)] [] X (0, 0) Q) : Ev E m_ne_shutValves 0 [(0, .ref 1)] [] X (0, 0) Q := by
  refine ev_iconst (v := 0) (pc := 0) d_ne_shutValves_0 kc_i_0 ?_
  refine ev_istore_n (L2 := [(0, .ref 1), (1, .int 0)]) (pc := 1) d_ne_shutValves_1 rfl (Nat.le_of_ble_eq_true rfl) rfl ?_
  refine ev_iconst (v := 0) (pc := 2) d_ne_shutValves_2 kc_i_0 ?_
  refine ev_istore_n (L2 := [(0, .ref 1), (1, .int 0), (2, .int 0)]) (pc := 3) d_ne_shutValves_3 rfl (Nat.le_of_ble_eq_true rfl) rfl ?_
  exact hh
theorem b_ne_shutValves_4 {E : gp_E} {S : gp_S} {X : gp_H} {Q : Option Value → gp_H → Prop} {x1 : Int32} {x2 : Int32} (hX : Lay S X)  (hh : (((gI X 1 1) ≤ x2 → Q (some (.int x1)) X) ∧ (¬ (gI X 1 1) ≤ x2 → (vp_in x2 20 ∧ (((gI X 4 (Int32.toNatClampNeg x2)) = 0 → Ev E m_ne_shutValves 4 [(0, .ref 1), (1, .int x1), (2, .int (x2 + 1))] [] X (0, 0) Q) ∧ (¬ (gI X 4 (Int32.toNatClampNeg x2)) = 0 → ((¬ (gI X 5 (Int32.toNatClampNeg x2)) = 0 → Ev E m_ne_shutValves 4 [(0, .ref 1), (1, .int x1), (2, .int (x2 + 1))] [] X (0, 0) Q) ∧ ((gI X 5 (Int32.toNatClampNeg x2)) = 0 → Ev E m_ne_shutValves 4 [(0, .ref 1), (1, .int (x1 + 1)), (2, .int (x2 + 1))] [] X (0, 0) Q)))))))) : Ev E m_ne_shutValves 4 [(0, .ref 1), (1, .int x1), (2, .int x2)] [] X (0, 0) Q := by
  refine ev_iload_n (x := x2) (pc := 4) d_ne_shutValves_4 rfl ?_
  refine ev_aload_n (x := 1) (pc := 5) d_ne_shutValves_5 rfl ?_
  refine ev_getJ (v := (gI X 1 1)) (pc := 6) d_ne_shutValves_6 f_ne_54 (ly_at hX 1 rfl) gg_5 rfl rfl ?_
  refine ev_icmp_ge (pc := 9) (tgt := 39) d_ne_shutValves_9 (by decide) (fun c_1 => ?_) (fun c_1 => ?_)
  · have h_2 := hh.1 c_1
    refine ev_iload_n (x := x1) (pc := 39) d_ne_shutValves_39 rfl ?_
    exact ev_iret (pc := 40) ⟨Nat.le_of_ble_eq_true rfl, Nat.le_of_ble_eq_true rfl⟩ d_ne_shutValves_40 rfl (vp_nar_int _) h_2
  · have h_3 := hh.2 c_1
    refine ev_aload_n (x := 1) (pc := 12) d_ne_shutValves_12 rfl ?_
    refine ev_getR (pc := 13) d_ne_shutValves_13 f_ne_18 (ly_at hX 1 rfl) gg_5 rfl (ly_rf hX 1 4 rfl) ?_
    refine ev_iload_n (x := x2) (pc := 16) d_ne_shutValves_16 rfl ?_
    refine ev_zaldJ (v := (gI X 4 (Int32.toNatClampNeg x2))) (pc := 17) d_ne_shutValves_17 (ly_at hX 4 rfl) h_3.1 rfl ?_
    refine ev_if_eq (pc := 18) (tgt := 33) d_ne_shutValves_18 (by decide) (fun c_4 => ?_) (fun c_4 => ?_)
    · have h_5 := h_3.2.1 c_4
      refine ev_iinc (v := (x2 + 1)) (L2 := [(0, .ref 1), (1, .int x1), (2, .int (x2 + 1))]) (pc := 33) d_ne_shutValves_33 rfl (by rw [kc_i_1]) rfl (Nat.le_of_ble_eq_true rfl) rfl ?_
      refine ev_goto (pc := 36) (tgt := 4) d_ne_shutValves_36 (by decide) ?_
      exact h_5
    · have h_6 := h_3.2.2 c_4
      refine ev_aload_n (x := 1) (pc := 21) d_ne_shutValves_21 rfl ?_
      refine ev_getR (pc := 22) d_ne_shutValves_22 f_ne_22 (ly_at hX 1 rfl) gg_5 rfl (ly_rf hX 1 5 rfl) ?_
      refine ev_iload_n (x := x2) (pc := 25) d_ne_shutValves_25 rfl ?_
      refine ev_zaldJ (v := (gI X 5 (Int32.toNatClampNeg x2))) (pc := 26) d_ne_shutValves_26 (ly_at hX 5 rfl) h_3.1 rfl ?_
      refine ev_if_ne (pc := 27) (tgt := 33) d_ne_shutValves_27 (by decide) (fun c_7 => ?_) (fun c_7 => ?_)
      · have h_8 := h_6.1 c_7
        refine ev_iinc (v := (x2 + 1)) (L2 := [(0, .ref 1), (1, .int x1), (2, .int (x2 + 1))]) (pc := 33) d_ne_shutValves_33 rfl (by rw [kc_i_1]) rfl (Nat.le_of_ble_eq_true rfl) rfl ?_
        refine ev_goto (pc := 36) (tgt := 4) d_ne_shutValves_36 (by decide) ?_
        exact h_8
      · have h_9 := h_6.2 c_7
        refine ev_iinc (v := (x1 + 1)) (L2 := [(0, .ref 1), (1, .int (x1 + 1)), (2, .int x2)]) (pc := 30) d_ne_shutValves_30 rfl (by rw [kc_i_1]) rfl (Nat.le_of_ble_eq_true rfl) rfl ?_
        refine ev_iinc (v := (x2 + 1)) (L2 := [(0, .ref 1), (1, .int (x1 + 1)), (2, .int (x2 + 1))]) (pc := 33) d_ne_shutValves_33 rfl (by rw [kc_i_1]) rfl (Nat.le_of_ble_eq_true rfl) rfl ?_
        refine ev_goto (pc := 36) (tgt := 4) d_ne_shutValves_36 (by decide) ?_
        exact h_9
theorem b_se_knotsOf_0 {E : gp_E} {S : gp_S} {X : gp_H} {Q : Option Value → gp_H → Prop} {x1 : Int32} (hX : Lay S X)  (hh : Ev E m_se_knotsOf 4 [(0, .ref 23), (1, .int x1), (2, .int 0), (3, .int 0)] [] X (0, 0) Q) : Ev E m_se_knotsOf 0 [(0, .ref 23), (1, .int x1)] [] X (0, 0) Q := by
  refine ev_iconst (v := 0) (pc := 0) d_se_knotsOf_0 kc_i_0 ?_
  refine ev_istore_n (L2 := [(0, .ref 23), (1, .int x1), (2, .int 0)]) (pc := 1) d_se_knotsOf_1 rfl (Nat.le_of_ble_eq_true rfl) rfl ?_
  refine ev_iconst (v := 0) (pc := 2) d_se_knotsOf_2 kc_i_0 ?_
  refine ev_istore_n (L2 := [(0, .ref 23), (1, .int x1), (2, .int 0), (3, .int 0)]) (pc := 3) d_se_knotsOf_3 rfl (Nat.le_of_ble_eq_true rfl) rfl ?_
  exact hh
theorem b_se_knotsOf_4 {E : gp_E} {S : gp_S} {X : gp_H} {Q : Option Value → gp_H → Prop} {x1 : Int32} {x2 : Int32} {x3 : Int32} (hX : Lay S X)  (hh : (((gI X 23 1) ≤ x3 → Q (some (.int x2)) X) ∧ (¬ (gI X 23 1) ≤ x3 → (((gb x1 x3) = false → Ev E m_se_knotsOf 4 [(0, .ref 23), (1, .int x1), (2, .int x2), (3, .int (x3 + 1))] [] X (0, 0) Q) ∧ ((gb x1 x3) = true → (vp_in x3 7 ∧ Ev E m_se_knotsOf 4 [(0, .ref 23), (1, .int x1), (2, .int (x2 ||| (gI X 24 (Int32.toNatClampNeg x3)))), (3, .int (x3 + 1))] [] X (0, 0) Q)))))) : Ev E m_se_knotsOf 4 [(0, .ref 23), (1, .int x1), (2, .int x2), (3, .int x3)] [] X (0, 0) Q := by
  refine ev_iload_n (x := x3) (pc := 4) d_se_knotsOf_4 rfl ?_
  refine ev_aload_n (x := 23) (pc := 5) d_se_knotsOf_5 rfl ?_
  refine ev_getJ (v := (gI X 23 1)) (pc := 6) d_se_knotsOf_6 f_se_37 (ly_at hX 23 rfl) gg_8 rfl rfl ?_
  refine ev_icmp_ge (pc := 9) (tgt := 35) d_se_knotsOf_9 (by decide) (fun c_1 => ?_) (fun c_1 => ?_)
  · have h_2 := hh.1 c_1
    refine ev_iload_n (x := x2) (pc := 35) d_se_knotsOf_35 rfl ?_
    exact ev_iret (pc := 36) ⟨Nat.le_of_ble_eq_true rfl, Nat.le_of_ble_eq_true rfl⟩ d_se_knotsOf_36 rfl (vp_nar_int _) h_2
  · have h_3 := hh.2 c_1
    refine ev_iload_n (x := x1) (pc := 12) d_se_knotsOf_12 rfl ?_
    refine ev_iload_n (x := x3) (pc := 13) d_se_knotsOf_13 rfl ?_
    refine ev_callSN (z := m_ga_hasBit) (as := [.int x1, .int x3]) (rest := []) (pc := 14) d_se_knotsOf_14 l_se_48 i_ga_hasBit o_ga_hasBit rfl rfl (Nat.le_of_ble_eq_true rfl) rfl (Nat.le_of_ble_eq_true rfl) ⟨Nat.le_of_ble_eq_true rfl, Nat.le_of_ble_eq_true rfl⟩ (s_ga_hasBit hX x1 x3) (fun r X1 hq => ?_)
    obtain ⟨rfl, rfl⟩ := hq
    show Ev E m_se_knotsOf 17 [(0, .ref 23), (1, .int x1), (2, .int x2), (3, .int x3)] [.int (bz (gb x1 x3))] X (0, 0) Q
    refine ev_ifz_eq (pc := 17) (tgt := 29) d_se_knotsOf_17 (by decide) (fun c_4 => ?_) (fun c_4 => ?_)
    · have h_5 := h_3.1 c_4
      refine ev_iinc (v := (x3 + 1)) (L2 := [(0, .ref 23), (1, .int x1), (2, .int x2), (3, .int (x3 + 1))]) (pc := 29) d_se_knotsOf_29 rfl (by rw [kc_i_1]) rfl (Nat.le_of_ble_eq_true rfl) rfl ?_
      refine ev_goto (pc := 32) (tgt := 4) d_se_knotsOf_32 (by decide) ?_
      exact h_5
    · have h_6 := h_3.2 c_4
      refine ev_iload_n (x := x2) (pc := 20) d_se_knotsOf_20 rfl ?_
      refine ev_aload_n (x := 23) (pc := 21) d_se_knotsOf_21 rfl ?_
      refine ev_getR (pc := 22) d_se_knotsOf_22 f_se_9 (ly_at hX 23 rfl) gg_8 rfl (ly_rf hX 23 2 rfl) ?_
      refine ev_iload_n (x := x3) (pc := 25) d_se_knotsOf_25 rfl ?_
      refine ev_ialdJ (v := (gI X 24 (Int32.toNatClampNeg x3))) (pc := 26) d_se_knotsOf_26 (ly_at hX 24 rfl) h_6.1 rfl ?_
      refine ev_ior (pc := 27) d_se_knotsOf_27 ?_
      refine ev_istore_n (L2 := [(0, .ref 23), (1, .int x1), (2, .int (x2 ||| (gI X 24 (Int32.toNatClampNeg x3)))), (3, .int x3)]) (pc := 28) d_se_knotsOf_28 rfl (Nat.le_of_ble_eq_true rfl) rfl ?_
      refine ev_iinc (v := (x3 + 1)) (L2 := [(0, .ref 23), (1, .int x1), (2, .int (x2 ||| (gI X 24 (Int32.toNatClampNeg x3)))), (3, .int (x3 + 1))]) (pc := 29) d_se_knotsOf_29 rfl (by rw [kc_i_1]) rfl (Nat.le_of_ble_eq_true rfl) rfl ?_
      refine ev_goto (pc := 32) (tgt := 4) d_se_knotsOf_32 (by decide) ?_
      exact h_6.2
theorem b_se_hindrance_0 {E : gp_E} {S : gp_S} {X : gp_H} {Q : Option Value → gp_H → Prop} {x1 : Int32} (hX : Lay S X)  (hh : (((gb (gI X 23 3) x1) = false → (∃ Qz_4, Ev E m_se_changedKnots 0 [(0, .ref 23)] [] X (0, 0) Qz_4 ∧ ∀ r X_7, Qz_4 r X_7 → ∃ v_12 : Int32, r = some (.int v_12) ∧ Lay S X_7 ∧ (vp_in x1 7 ∧ (∃ Qz_13, Ev E m_ne_canBePartedFromRest 0 [(0, .ref 1), (1, .int (v_12 ||| (gI X_7 24 (Int32.toNatClampNeg x1))))] [] X_7 (0, 0) Qz_13 ∧ ∀ r X_16, Qz_13 r X_16 → ∃ v_21 : Int32, r = some (.int v_21) ∧ Lay S X_16 ∧ ((¬ v_21 = 0 → (∃ Qz_25, Ev E m_ne_fedWithin 0 [(0, .ref 1), (1, .int (v_12 ||| (gI X_7 24 (Int32.toNatClampNeg x1))))] [] X_16 (0, 0) Qz_25 ∧ ∀ r X_28, Qz_25 r X_28 → ∃ v_33 : Int32, r = some (.int v_33) ∧ Lay S X_28 ∧ ((((gI X_16 24 (Int32.toNatClampNeg x1)) &&& (v_33 ^^^ (-1))) = 0 → (∃ Qz_37, Ev E m_se_restIsSupplied 0 [(0, .ref 23), (1, .int (v_12 ||| (gI X_7 24 (Int32.toNatClampNeg x1))))] [] X_28 (0, 0) Qz_37 ∧ ∀ r X_40, Qz_37 r X_40 → ∃ v_45 : Int32, r = some (.int v_45) ∧ Lay S X_40 ∧ ((v_45 = 0 → Q (some (.int 4)) X_40) ∧ (¬ v_45 = 0 → Q (some (.int 0)) X_40)))) ∧ (¬ ((gI X_16 24 (Int32.toNatClampNeg x1)) &&& (v_33 ^^^ (-1))) = 0 → Q (some (.int 3)) X_28)))) ∧ (v_21 = 0 → Q (some (.int 2)) X_16)))))) ∧ ((gb (gI X 23 3) x1) = true → Q (some (.int 1)) X))) : Ev E m_se_hindrance 0 [(0, .ref 23), (1, .int x1)] [] X (0, 0) Q := by
  refine ev_aload_n (x := 23) (pc := 0) d_se_hindrance_0 rfl ?_
  refine ev_iload_n (x := x1) (pc := 1) d_se_hindrance_1 rfl ?_
  refine ev_callV (z := m_se_isChanged) (as := [.int x1]) (rest := []) (pc := 2) d_se_hindrance_2 (ly_at hX 23 rfl) lt13_8 rfl l_se_59 i_se_isChanged v_se_isChanged o_se_isChanged rfl rfl (Nat.le_of_ble_eq_true rfl) rfl (Nat.le_of_ble_eq_true rfl) ⟨Nat.le_of_ble_eq_true rfl, Nat.le_of_ble_eq_true rfl⟩ (s_se_isChanged hX x1 ) (fun r X1 hq => ?_)
  obtain ⟨rfl, rfl⟩ := hq
  show Ev E m_se_hindrance 5 [(0, .ref 23), (1, .int x1)] [.int (bz (gb (gI X 23 3) x1))] X (0, 0) Q
  refine ev_ifz_eq (pc := 5) (tgt := 10) d_se_hindrance_5 (by decide) (fun c_1 => ?_) (fun c_1 => ?_)
  · have h_2 := hh.1 c_1
    refine ev_aload_n (x := 23) (pc := 10) d_se_hindrance_10 rfl ?_
    obtain ⟨Qz_4, hc_5, hk_6⟩ := h_2
    refine ev_callV (z := m_se_changedKnots) (as := []) (rest := []) (pc := 11) d_se_hindrance_11 (ly_at hX 23 rfl) lt13_8 rfl l_se_63 i_se_changedKnots v_se_changedKnots o_se_changedKnots rfl rfl (Nat.le_of_ble_eq_true rfl) rfl (Nat.le_of_ble_eq_true rfl) ⟨Nat.le_of_ble_eq_true rfl, Nat.le_of_ble_eq_true rfl⟩ hc_5 (fun r_8 X_7 hq_9 => ?_)
    obtain ⟨v_12, rfl, hX_11, h_10⟩ := hk_6 _ _ hq_9
    show Ev E m_se_hindrance 14 [(0, .ref 23), (1, .int x1)] [.int v_12] X_7 (0, 0) Q
    refine ev_aload_n (x := 23) (pc := 14) d_se_hindrance_14 rfl ?_
    refine ev_getR (pc := 15) d_se_hindrance_15 f_se_9 (ly_at hX_11 23 rfl) gg_8 rfl (ly_rf hX_11 23 2 rfl) ?_
    refine ev_iload_n (x := x1) (pc := 18) d_se_hindrance_18 rfl ?_
    refine ev_ialdJ (v := (gI X_7 24 (Int32.toNatClampNeg x1))) (pc := 19) d_se_hindrance_19 (ly_at hX_11 24 rfl) h_10.1 rfl ?_
    refine ev_ior (pc := 20) d_se_hindrance_20 ?_
    refine ev_istore_n (L2 := [(0, .ref 23), (1, .int x1), (2, .int (v_12 ||| (gI X_7 24 (Int32.toNatClampNeg x1))))]) (pc := 21) d_se_hindrance_21 rfl (Nat.le_of_ble_eq_true rfl) rfl ?_
    refine ev_aload_n (x := 23) (pc := 22) d_se_hindrance_22 rfl ?_
    refine ev_getR (pc := 23) d_se_hindrance_23 f_se_33 (ly_at hX_11 23 rfl) gg_8 rfl (ly_rf hX_11 23 0 rfl) ?_
    refine ev_iload_n (x := (v_12 ||| (gI X_7 24 (Int32.toNatClampNeg x1)))) (pc := 26) d_se_hindrance_26 rfl ?_
    obtain ⟨Qz_13, hc_14, hk_15⟩ := h_10.2
    refine ev_callV (z := m_ne_canBePartedFromRest) (as := [.int (v_12 ||| (gI X_7 24 (Int32.toNatClampNeg x1)))]) (rest := []) (pc := 27) d_se_hindrance_27 (ly_at hX_11 1 rfl) lt13_5 rfl l_se_67 i_ne_canBePartedFromRest v_ne_canBePartedFromRest o_ne_canBePartedFromRest rfl rfl (Nat.le_of_ble_eq_true rfl) rfl (Nat.le_of_ble_eq_true rfl) ⟨Nat.le_of_ble_eq_true rfl, Nat.le_of_ble_eq_true rfl⟩ hc_14 (fun r_17 X_16 hq_18 => ?_)
    obtain ⟨v_21, rfl, hX_20, h_19⟩ := hk_15 _ _ hq_18
    show Ev E m_se_hindrance 30 [(0, .ref 23), (1, .int x1), (2, .int (v_12 ||| (gI X_7 24 (Int32.toNatClampNeg x1))))] [.int v_21] X_16 (0, 0) Q
    refine ev_if_ne (pc := 30) (tgt := 35) d_se_hindrance_30 (by decide) (fun c_22 => ?_) (fun c_22 => ?_)
    · have h_23 := h_19.1 c_22
      refine ev_aload_n (x := 23) (pc := 35) d_se_hindrance_35 rfl ?_
      refine ev_getR (pc := 36) d_se_hindrance_36 f_se_9 (ly_at hX_20 23 rfl) gg_8 rfl (ly_rf hX_20 23 2 rfl) ?_
      refine ev_iload_n (x := x1) (pc := 39) d_se_hindrance_39 rfl ?_
      refine ev_ialdJ (v := (gI X_16 24 (Int32.toNatClampNeg x1))) (pc := 40) d_se_hindrance_40 (ly_at hX_20 24 rfl) h_10.1 rfl ?_
      refine ev_aload_n (x := 23) (pc := 41) d_se_hindrance_41 rfl ?_
      refine ev_getR (pc := 42) d_se_hindrance_42 f_se_33 (ly_at hX_20 23 rfl) gg_8 rfl (ly_rf hX_20 23 0 rfl) ?_
      refine ev_iload_n (x := (v_12 ||| (gI X_7 24 (Int32.toNatClampNeg x1)))) (pc := 45) d_se_hindrance_45 rfl ?_
      obtain ⟨Qz_25, hc_26, hk_27⟩ := h_23
      refine ev_callV (z := m_ne_fedWithin) (as := [.int (v_12 ||| (gI X_7 24 (Int32.toNatClampNeg x1)))]) (rest := [.int (gI X_16 24 (Int32.toNatClampNeg x1))]) (pc := 46) d_se_hindrance_46 (ly_at hX_20 1 rfl) lt13_5 rfl l_se_72 i_ne_fedWithin v_ne_fedWithin o_ne_fedWithin rfl rfl (Nat.le_of_ble_eq_true rfl) rfl (Nat.le_of_ble_eq_true rfl) ⟨Nat.le_of_ble_eq_true rfl, Nat.le_of_ble_eq_true rfl⟩ hc_26 (fun r_29 X_28 hq_30 => ?_)
      obtain ⟨v_33, rfl, hX_32, h_31⟩ := hk_27 _ _ hq_30
      show Ev E m_se_hindrance 49 [(0, .ref 23), (1, .int x1), (2, .int (v_12 ||| (gI X_7 24 (Int32.toNatClampNeg x1))))] [.int v_33, .int (gI X_16 24 (Int32.toNatClampNeg x1))] X_28 (0, 0) Q
      refine ev_iconst (v := (-1)) (pc := 49) d_se_hindrance_49 kc_i_m1 ?_
      refine ev_ixor (pc := 50) d_se_hindrance_50 ?_
      refine ev_iand (pc := 51) d_se_hindrance_51 ?_
      refine ev_if_eq (pc := 52) (tgt := 57) d_se_hindrance_52 (by decide) (fun c_34 => ?_) (fun c_34 => ?_)
      · have h_35 := h_31.1 c_34
        refine ev_aload_n (x := 23) (pc := 57) d_se_hindrance_57 rfl ?_
        refine ev_iload_n (x := (v_12 ||| (gI X_7 24 (Int32.toNatClampNeg x1)))) (pc := 58) d_se_hindrance_58 rfl ?_
        obtain ⟨Qz_37, hc_38, hk_39⟩ := h_35
        refine ev_callV (z := m_se_restIsSupplied) (as := [.int (v_12 ||| (gI X_7 24 (Int32.toNatClampNeg x1)))]) (rest := []) (pc := 59) d_se_hindrance_59 (ly_at hX_32 23 rfl) lt13_8 rfl l_se_75 i_se_restIsSupplied v_se_restIsSupplied o_se_restIsSupplied rfl rfl (Nat.le_of_ble_eq_true rfl) rfl (Nat.le_of_ble_eq_true rfl) ⟨Nat.le_of_ble_eq_true rfl, Nat.le_of_ble_eq_true rfl⟩ hc_38 (fun r_41 X_40 hq_42 => ?_)
        obtain ⟨v_45, rfl, hX_44, h_43⟩ := hk_39 _ _ hq_42
        show Ev E m_se_hindrance 62 [(0, .ref 23), (1, .int x1), (2, .int (v_12 ||| (gI X_7 24 (Int32.toNatClampNeg x1))))] [.int v_45] X_40 (0, 0) Q
        refine ev_if_eq (pc := 62) (tgt := 69) d_se_hindrance_62 (by decide) (fun c_46 => ?_) (fun c_46 => ?_)
        · have h_47 := h_43.1 c_46
          refine ev_iconst (v := 4) (pc := 69) d_se_hindrance_69 kc_i_4 ?_
          exact ev_iret (pc := 70) ⟨Nat.le_of_ble_eq_true rfl, Nat.le_of_ble_eq_true rfl⟩ d_se_hindrance_70 rfl (vp_nar_int _) h_47
        · have h_48 := h_43.2 c_46
          refine ev_iconst (v := 0) (pc := 65) d_se_hindrance_65 kc_i_0 ?_
          refine ev_goto (pc := 66) (tgt := 70) d_se_hindrance_66 (by decide) ?_
          exact ev_iret (pc := 70) ⟨Nat.le_of_ble_eq_true rfl, Nat.le_of_ble_eq_true rfl⟩ d_se_hindrance_70 rfl (vp_nar_int _) h_48
      · have h_36 := h_31.2 c_34
        refine ev_iconst (v := 3) (pc := 55) d_se_hindrance_55 kc_i_3 ?_
        exact ev_iret (pc := 56) ⟨Nat.le_of_ble_eq_true rfl, Nat.le_of_ble_eq_true rfl⟩ d_se_hindrance_56 rfl (vp_nar_int _) h_36
    · have h_24 := h_19.2 c_22
      refine ev_iconst (v := 2) (pc := 33) d_se_hindrance_33 kc_i_2 ?_
      exact ev_iret (pc := 34) ⟨Nat.le_of_ble_eq_true rfl, Nat.le_of_ble_eq_true rfl⟩ d_se_hindrance_34 rfl (vp_nar_int _) h_24
  · have h_3 := hh.2 c_1
    refine ev_iconst (v := 1) (pc := 8) d_se_hindrance_8 kc_i_1 ?_
    exact ev_iret (pc := 9) ⟨Nat.le_of_ble_eq_true rfl, Nat.le_of_ble_eq_true rfl⟩ d_se_hindrance_9 rfl (vp_nar_int _) h_3
theorem b_se_changedKnots_0 {E : gp_E} {S : gp_S} {X : gp_H} {Q : Option Value → gp_H → Prop}  (hX : Lay S X)  (hh : (∃ Qz_1, Ev E m_se_knotsOf 0 [(0, .ref 23), (1, .int (gI X 23 3))] [] X (0, 0) Qz_1 ∧ ∀ r X_4, Qz_1 r X_4 → ∃ v_9 : Int32, r = some (.int v_9) ∧ Lay S X_4 ∧ Q (some (.int v_9)) X_4)) : Ev E m_se_changedKnots 0 [(0, .ref 23)] [] X (0, 0) Q := by
  refine ev_aload_n (x := 23) (pc := 0) d_se_changedKnots_0 rfl ?_
  refine ev_aload_n (x := 23) (pc := 1) d_se_changedKnots_1 rfl ?_
  refine ev_getJ (v := (gI X 23 3)) (pc := 2) d_se_changedKnots_2 f_se_45 (ly_at hX 23 rfl) gg_8 rfl rfl ?_
  obtain ⟨Qz_1, hc_2, hk_3⟩ := hh
  refine ev_callV (z := m_se_knotsOf) (as := [.int (gI X 23 3)]) (rest := []) (pc := 5) d_se_changedKnots_5 (ly_at hX 23 rfl) lt13_8 rfl l_se_52 i_se_knotsOf v_se_knotsOf o_se_knotsOf rfl rfl (Nat.le_of_ble_eq_true rfl) rfl (Nat.le_of_ble_eq_true rfl) ⟨Nat.le_of_ble_eq_true rfl, Nat.le_of_ble_eq_true rfl⟩ hc_2 (fun r_5 X_4 hq_6 => ?_)
  obtain ⟨v_9, rfl, hX_8, h_7⟩ := hk_3 _ _ hq_6
  show Ev E m_se_changedKnots 8 [(0, .ref 23)] [.int v_9] X_4 (0, 0) Q
  exact ev_iret (pc := 8) ⟨Nat.le_of_ble_eq_true rfl, Nat.le_of_ble_eq_true rfl⟩ d_se_changedKnots_8 rfl (vp_nar_int _) h_7
theorem b_se_restIsSupplied_0 {E : gp_E} {S : gp_S} {X : gp_H} {Q : Option Value → gp_H → Prop} {x1 : Int32} (hX : Lay S X)  (hh : Ev E m_se_restIsSupplied 17 [(0, .ref 23), (1, .int x1), (2, .int ((((1 : Int32) <<< ((gI X 1 0) &&& 31)) - 1) &&& (x1 ^^^ (-1)))), (3, .int ((((1 : Int32) <<< ((gI X 1 0) &&& 31)) - 1) &&& (x1 ^^^ (-1)))), (4, .int 0)] [] X (0, 0) Q) : Ev E m_se_restIsSupplied 0 [(0, .ref 23), (1, .int x1)] [] X (0, 0) Q := by
  refine ev_aload_n (x := 23) (pc := 0) d_se_restIsSupplied_0 rfl ?_
  refine ev_getR (pc := 1) d_se_restIsSupplied_1 f_se_33 (ly_at hX 23 rfl) gg_8 rfl (ly_rf hX 23 0 rfl) ?_
  refine ev_callV (z := m_ne_allKnots) (as := []) (rest := []) (pc := 4) d_se_restIsSupplied_4 (ly_at hX 1 rfl) lt13_5 rfl l_se_78 i_ne_allKnots v_ne_allKnots o_ne_allKnots rfl rfl (Nat.le_of_ble_eq_true rfl) rfl (Nat.le_of_ble_eq_true rfl) ⟨Nat.le_of_ble_eq_true rfl, Nat.le_of_ble_eq_true rfl⟩ (s_ne_allKnots hX  ) (fun r X1 hq => ?_)
  obtain ⟨rfl, rfl⟩ := hq
  show Ev E m_se_restIsSupplied 7 [(0, .ref 23), (1, .int x1)] [.int (((1 : Int32) <<< ((gI X 1 0) &&& 31)) - 1)] X (0, 0) Q
  refine ev_iload_n (x := x1) (pc := 7) d_se_restIsSupplied_7 rfl ?_
  refine ev_iconst (v := (-1)) (pc := 8) d_se_restIsSupplied_8 kc_i_m1 ?_
  refine ev_ixor (pc := 9) d_se_restIsSupplied_9 ?_
  refine ev_iand (pc := 10) d_se_restIsSupplied_10 ?_
  refine ev_istore_n (L2 := [(0, .ref 23), (1, .int x1), (2, .int ((((1 : Int32) <<< ((gI X 1 0) &&& 31)) - 1) &&& (x1 ^^^ (-1))))]) (pc := 11) d_se_restIsSupplied_11 rfl (Nat.le_of_ble_eq_true rfl) rfl ?_
  refine ev_iload_n (x := ((((1 : Int32) <<< ((gI X 1 0) &&& 31)) - 1) &&& (x1 ^^^ (-1)))) (pc := 12) d_se_restIsSupplied_12 rfl ?_
  refine ev_istore_n (L2 := [(0, .ref 23), (1, .int x1), (2, .int ((((1 : Int32) <<< ((gI X 1 0) &&& 31)) - 1) &&& (x1 ^^^ (-1)))), (3, .int ((((1 : Int32) <<< ((gI X 1 0) &&& 31)) - 1) &&& (x1 ^^^ (-1))))]) (pc := 13) d_se_restIsSupplied_13 rfl (Nat.le_of_ble_eq_true rfl) rfl ?_
  refine ev_iconst (v := 0) (pc := 14) d_se_restIsSupplied_14 kc_i_0 ?_
  refine ev_istore (L2 := [(0, .ref 23), (1, .int x1), (2, .int ((((1 : Int32) <<< ((gI X 1 0) &&& 31)) - 1) &&& (x1 ^^^ (-1)))), (3, .int ((((1 : Int32) <<< ((gI X 1 0) &&& 31)) - 1) &&& (x1 ^^^ (-1)))), (4, .int 0)]) (pc := 15) d_se_restIsSupplied_15 rfl (Nat.le_of_ble_eq_true rfl) rfl ?_
  exact hh
theorem b_se_restIsSupplied_17 {E : gp_E} {S : gp_S} {X : gp_H} {Q : Option Value → gp_H → Prop} {x1 : Int32} {x2 : Int32} {x3 : Int32} {x4 : Int32} (hX : Lay S X)  (hh : ((12 ≤ x4 → Q (some (.int 1)) X) ∧ (¬ 12 ≤ x4 → ((x3 = 0 → Q (some (.int 1)) X) ∧ (¬ x3 = 0 → (∃ Qz_7, Ev E m_ga_lowestIn 0 [(0, .int x3)] [] X (0, 0) Qz_7 ∧ ∀ r X_10, Qz_7 r X_10 → ∃ v_15 : Int32, r = some (.int v_15) ∧ Lay S X_10 ∧ (∃ Qz_16, Ev E m_ne_spread 0 [(0, .ref 1), (1, .int ((1 : Int32) <<< (v_15 &&& 31))), (2, .int x2), (3, .ref 6)] [] X_10 (0, 0) Qz_16 ∧ ∀ r X_19, Qz_16 r X_19 → ∃ v_24 : Int32, r = some (.int v_24) ∧ Lay S X_19 ∧ (∃ Qz_25, Ev E m_se_lackIn 0 [(0, .ref 23), (1, .int v_24)] [] X_19 (0, 0) Qz_25 ∧ ∀ r X_28, Qz_25 r X_28 → ∃ v_33 : Int32, r = some (.int v_33) ∧ Lay S X_28 ∧ ((v_33 ≤ 0 → Ev E m_se_restIsSupplied 17 [(0, .ref 23), (1, .int x1), (2, .int x2), (3, .int (x3 &&& (v_24 ^^^ (-1)))), (4, .int (x4 + 1))] [] X_28 (0, 0) Q) ∧ (¬ v_33 ≤ 0 → Q (some (.int 0)) X_28)))))))))) : Ev E m_se_restIsSupplied 17 [(0, .ref 23), (1, .int x1), (2, .int x2), (3, .int x3), (4, .int x4)] [] X (0, 0) Q := by
  refine ev_iload (x := x4) (pc := 17) d_se_restIsSupplied_17 rfl ?_
  refine ev_bipush (v := 12) (pc := 19) d_se_restIsSupplied_19 kc_b_12 ?_
  refine ev_icmp_ge (pc := 21) (tgt := 75) d_se_restIsSupplied_21 (by decide) (fun c_1 => ?_) (fun c_1 => ?_)
  · have h_2 := hh.1 c_1
    refine ev_iconst (v := 1) (pc := 75) d_se_restIsSupplied_75 kc_i_1 ?_
    exact ev_iret (pc := 76) ⟨Nat.le_of_ble_eq_true rfl, Nat.le_of_ble_eq_true rfl⟩ d_se_restIsSupplied_76 rfl nb_1 h_2
  · have h_3 := hh.2 c_1
    refine ev_iload_n (x := x3) (pc := 24) d_se_restIsSupplied_24 rfl ?_
    refine ev_if_eq (pc := 25) (tgt := 75) d_se_restIsSupplied_25 (by decide) (fun c_4 => ?_) (fun c_4 => ?_)
    · have h_5 := h_3.1 c_4
      refine ev_iconst (v := 1) (pc := 75) d_se_restIsSupplied_75 kc_i_1 ?_
      exact ev_iret (pc := 76) ⟨Nat.le_of_ble_eq_true rfl, Nat.le_of_ble_eq_true rfl⟩ d_se_restIsSupplied_76 rfl nb_1 h_5
    · have h_6 := h_3.2 c_4
      refine ev_aload_n (x := 23) (pc := 28) d_se_restIsSupplied_28 rfl ?_
      refine ev_getR (pc := 29) d_se_restIsSupplied_29 f_se_33 (ly_at hX 23 rfl) gg_8 rfl (ly_rf hX 23 0 rfl) ?_
      refine ev_iconst (v := 1) (pc := 32) d_se_restIsSupplied_32 kc_i_1 ?_
      refine ev_iload_n (x := x3) (pc := 33) d_se_restIsSupplied_33 rfl ?_
      obtain ⟨Qz_7, hc_8, hk_9⟩ := h_6
      refine ev_callSN (z := m_ga_lowestIn) (as := [.int x3]) (rest := [.int 1, .ref 1]) (pc := 34) d_se_restIsSupplied_34 l_se_81 i_ga_lowestIn o_ga_lowestIn rfl rfl (Nat.le_of_ble_eq_true rfl) rfl (Nat.le_of_ble_eq_true rfl) ⟨Nat.le_of_ble_eq_true rfl, Nat.le_of_ble_eq_true rfl⟩ hc_8 (fun r_11 X_10 hq_12 => ?_)
      obtain ⟨v_15, rfl, hX_14, h_13⟩ := hk_9 _ _ hq_12
      show Ev E m_se_restIsSupplied 37 [(0, .ref 23), (1, .int x1), (2, .int x2), (3, .int x3), (4, .int x4)] [.int v_15, .int 1, .ref 1] X_10 (0, 0) Q
      refine ev_ishl (pc := 37) d_se_restIsSupplied_37 ?_
      refine ev_iload_n (x := x2) (pc := 38) d_se_restIsSupplied_38 rfl ?_
      refine ev_aload_n (x := 23) (pc := 39) d_se_restIsSupplied_39 rfl ?_
      refine ev_getR (pc := 40) d_se_restIsSupplied_40 f_se_33 (ly_at hX_14 23 rfl) gg_8 rfl (ly_rf hX_14 23 0 rfl) ?_
      refine ev_getR (pc := 43) d_se_restIsSupplied_43 f_se_84 (ly_at hX_14 1 rfl) gg_5 rfl (ly_rf hX_14 1 6 rfl) ?_
      obtain ⟨Qz_16, hc_17, hk_18⟩ := h_13
      refine ev_callV (z := m_ne_spread) (as := [.int ((1 : Int32) <<< (v_15 &&& 31)), .int x2, .ref 6]) (rest := []) (pc := 46) d_se_restIsSupplied_46 (ly_at hX_14 1 rfl) lt13_5 rfl l_se_87 i_ne_spread v_ne_spread o_ne_spread rfl rfl (Nat.le_of_ble_eq_true rfl) rfl (Nat.le_of_ble_eq_true rfl) ⟨Nat.le_of_ble_eq_true rfl, Nat.le_of_ble_eq_true rfl⟩ hc_17 (fun r_20 X_19 hq_21 => ?_)
      obtain ⟨v_24, rfl, hX_23, h_22⟩ := hk_18 _ _ hq_21
      show Ev E m_se_restIsSupplied 49 [(0, .ref 23), (1, .int x1), (2, .int x2), (3, .int x3), (4, .int x4)] [.int v_24] X_19 (0, 0) Q
      refine ev_istore (L2 := [(0, .ref 23), (1, .int x1), (2, .int x2), (3, .int x3), (4, .int x4), (5, .int v_24)]) (pc := 49) d_se_restIsSupplied_49 rfl (Nat.le_of_ble_eq_true rfl) rfl ?_
      refine ev_iload_n (x := x3) (pc := 51) d_se_restIsSupplied_51 rfl ?_
      refine ev_iload (x := v_24) (pc := 52) d_se_restIsSupplied_52 rfl ?_
      refine ev_iconst (v := (-1)) (pc := 54) d_se_restIsSupplied_54 kc_i_m1 ?_
      refine ev_ixor (pc := 55) d_se_restIsSupplied_55 ?_
      refine ev_iand (pc := 56) d_se_restIsSupplied_56 ?_
      refine ev_istore_n (L2 := [(0, .ref 23), (1, .int x1), (2, .int x2), (3, .int (x3 &&& (v_24 ^^^ (-1)))), (4, .int x4), (5, .int v_24)]) (pc := 57) d_se_restIsSupplied_57 rfl (Nat.le_of_ble_eq_true rfl) rfl ?_
      refine ev_aload_n (x := 23) (pc := 58) d_se_restIsSupplied_58 rfl ?_
      refine ev_iload (x := v_24) (pc := 59) d_se_restIsSupplied_59 rfl ?_
      obtain ⟨Qz_25, hc_26, hk_27⟩ := h_22
      refine ev_callV (z := m_se_lackIn) (as := [.int v_24]) (rest := []) (pc := 61) d_se_restIsSupplied_61 (ly_at hX_23 23 rfl) lt13_8 rfl l_se_91 i_se_lackIn v_se_lackIn o_se_lackIn rfl rfl (Nat.le_of_ble_eq_true rfl) rfl (Nat.le_of_ble_eq_true rfl) ⟨Nat.le_of_ble_eq_true rfl, Nat.le_of_ble_eq_true rfl⟩ hc_26 (fun r_29 X_28 hq_30 => ?_)
      obtain ⟨v_33, rfl, hX_32, h_31⟩ := hk_27 _ _ hq_30
      show Ev E m_se_restIsSupplied 64 [(0, .ref 23), (1, .int x1), (2, .int x2), (3, .int (x3 &&& (v_24 ^^^ (-1)))), (4, .int x4), (5, .int v_24)] [.int v_33] X_28 (0, 0) Q
      refine ev_if_le (pc := 64) (tgt := 69) d_se_restIsSupplied_64 (by decide) (fun c_34 => ?_) (fun c_34 => ?_)
      · have h_35 := h_31.1 c_34
        refine ev_iinc (v := (x4 + 1)) (L2 := [(0, .ref 23), (1, .int x1), (2, .int x2), (3, .int (x3 &&& (v_24 ^^^ (-1)))), (4, .int (x4 + 1)), (5, .int v_24)]) (pc := 69) d_se_restIsSupplied_69 rfl (by rw [kc_i_1]) rfl (Nat.le_of_ble_eq_true rfl) rfl ?_
        refine ev_goto (pc := 72) (tgt := 17) d_se_restIsSupplied_72 (by decide) ?_
        exact ev_sub [(0, .ref 23), (1, .int x1), (2, .int x2), (3, .int (x3 &&& (v_24 ^^^ (-1)))), (4, .int (x4 + 1))] (List.forall_mem_cons.mpr ⟨rfl, (List.forall_mem_cons.mpr ⟨rfl, (List.forall_mem_cons.mpr ⟨rfl, (List.forall_mem_cons.mpr ⟨rfl, (List.forall_mem_cons.mpr ⟨rfl, (fun _ h => nomatch h)⟩)⟩)⟩)⟩)⟩) h_35
      · have h_36 := h_31.2 c_34
        refine ev_iconst (v := 0) (pc := 67) d_se_restIsSupplied_67 kc_i_0 ?_
        exact ev_iret (pc := 68) ⟨Nat.le_of_ble_eq_true rfl, Nat.le_of_ble_eq_true rfl⟩ d_se_restIsSupplied_68 rfl nb_0 h_36
theorem b_se_lackIn_0 {E : gp_E} {S : gp_S} {X : gp_H} {Q : Option Value → gp_H → Prop} {x1 : Int32} (hX : Lay S X)  (hh : Ev E m_se_lackIn 4 [(0, .ref 23), (1, .int x1), (2, .int 0), (3, .int 0)] [] X (0, 0) Q) : Ev E m_se_lackIn 0 [(0, .ref 23), (1, .int x1)] [] X (0, 0) Q := by
  refine ev_iconst (v := 0) (pc := 0) d_se_lackIn_0 kc_i_0 ?_
  refine ev_istore_n (L2 := [(0, .ref 23), (1, .int x1), (2, .int 0)]) (pc := 1) d_se_lackIn_1 rfl (Nat.le_of_ble_eq_true rfl) rfl ?_
  refine ev_iconst (v := 0) (pc := 2) d_se_lackIn_2 kc_i_0 ?_
  refine ev_istore_n (L2 := [(0, .ref 23), (1, .int x1), (2, .int 0), (3, .int 0)]) (pc := 3) d_se_lackIn_3 rfl (Nat.le_of_ble_eq_true rfl) rfl ?_
  exact hh
theorem b_se_lackIn_4 {E : gp_E} {S : gp_S} {X : gp_H} {Q : Option Value → gp_H → Prop} {x1 : Int32} {x2 : Int32} {x3 : Int32} (hX : Lay S X)  (hh : (((gI X 1 0) ≤ x3 → Q (some (.int x2)) X) ∧ (¬ (gI X 1 0) ≤ x3 → (((gb x1 x3) = false → Ev E m_se_lackIn 4 [(0, .ref 23), (1, .int x1), (2, .int x2), (3, .int (x3 + 1))] [] X (0, 0) Q) ∧ ((gb x1 x3) = true → (vp_in x3 12 ∧ Ev E m_se_lackIn 4 [(0, .ref 23), (1, .int x1), (2, .int (x2 + (gI X 27 (Int32.toNatClampNeg x3)))), (3, .int (x3 + 1))] [] X (0, 0) Q)))))) : Ev E m_se_lackIn 4 [(0, .ref 23), (1, .int x1), (2, .int x2), (3, .int x3)] [] X (0, 0) Q := by
  refine ev_iload_n (x := x3) (pc := 4) d_se_lackIn_4 rfl ?_
  refine ev_aload_n (x := 23) (pc := 5) d_se_lackIn_5 rfl ?_
  refine ev_getR (pc := 6) d_se_lackIn_6 f_se_33 (ly_at hX 23 rfl) gg_8 rfl (ly_rf hX 23 0 rfl) ?_
  refine ev_getJ (v := (gI X 1 0)) (pc := 9) d_se_lackIn_9 f_se_94 (ly_at hX 1 rfl) gg_5 rfl rfl ?_
  refine ev_icmp_ge (pc := 12) (tgt := 38) d_se_lackIn_12 (by decide) (fun c_1 => ?_) (fun c_1 => ?_)
  · have h_2 := hh.1 c_1
    refine ev_iload_n (x := x2) (pc := 38) d_se_lackIn_38 rfl ?_
    exact ev_iret (pc := 39) ⟨Nat.le_of_ble_eq_true rfl, Nat.le_of_ble_eq_true rfl⟩ d_se_lackIn_39 rfl (vp_nar_int _) h_2
  · have h_3 := hh.2 c_1
    refine ev_iload_n (x := x1) (pc := 15) d_se_lackIn_15 rfl ?_
    refine ev_iload_n (x := x3) (pc := 16) d_se_lackIn_16 rfl ?_
    refine ev_callSN (z := m_ga_hasBit) (as := [.int x1, .int x3]) (rest := []) (pc := 17) d_se_lackIn_17 l_se_48 i_ga_hasBit o_ga_hasBit rfl rfl (Nat.le_of_ble_eq_true rfl) rfl (Nat.le_of_ble_eq_true rfl) ⟨Nat.le_of_ble_eq_true rfl, Nat.le_of_ble_eq_true rfl⟩ (s_ga_hasBit hX x1 x3) (fun r X1 hq => ?_)
    obtain ⟨rfl, rfl⟩ := hq
    show Ev E m_se_lackIn 20 [(0, .ref 23), (1, .int x1), (2, .int x2), (3, .int x3)] [.int (bz (gb x1 x3))] X (0, 0) Q
    refine ev_ifz_eq (pc := 20) (tgt := 32) d_se_lackIn_20 (by decide) (fun c_4 => ?_) (fun c_4 => ?_)
    · have h_5 := h_3.1 c_4
      refine ev_iinc (v := (x3 + 1)) (L2 := [(0, .ref 23), (1, .int x1), (2, .int x2), (3, .int (x3 + 1))]) (pc := 32) d_se_lackIn_32 rfl (by rw [kc_i_1]) rfl (Nat.le_of_ble_eq_true rfl) rfl ?_
      refine ev_goto (pc := 35) (tgt := 4) d_se_lackIn_35 (by decide) ?_
      exact h_5
    · have h_6 := h_3.2 c_4
      refine ev_iload_n (x := x2) (pc := 23) d_se_lackIn_23 rfl ?_
      refine ev_aload_n (x := 23) (pc := 24) d_se_lackIn_24 rfl ?_
      refine ev_getR (pc := 25) d_se_lackIn_25 f_se_21 (ly_at hX 23 rfl) gg_8 rfl (ly_rf hX 23 8 rfl) ?_
      refine ev_iload_n (x := x3) (pc := 28) d_se_lackIn_28 rfl ?_
      refine ev_ialdJ (v := (gI X 27 (Int32.toNatClampNeg x3))) (pc := 29) d_se_lackIn_29 (ly_at hX 27 rfl) h_6.1 rfl ?_
      refine ev_iadd (pc := 30) d_se_lackIn_30 ?_
      refine ev_istore_n (L2 := [(0, .ref 23), (1, .int x1), (2, .int (x2 + (gI X 27 (Int32.toNatClampNeg x3)))), (3, .int x3)]) (pc := 31) d_se_lackIn_31 rfl (Nat.le_of_ble_eq_true rfl) rfl ?_
      refine ev_iinc (v := (x3 + 1)) (L2 := [(0, .ref 23), (1, .int x1), (2, .int (x2 + (gI X 27 (Int32.toNatClampNeg x3)))), (3, .int (x3 + 1))]) (pc := 32) d_se_lackIn_32 rfl (by rw [kc_i_1]) rfl (Nat.le_of_ble_eq_true rfl) rfl ?_
      refine ev_goto (pc := 35) (tgt := 4) d_se_lackIn_35 (by decide) ?_
      exact h_6.2
theorem b_se_findBestRow_0 {E : gp_E} {S : gp_S} {X : gp_H} {Q : Option Value → gp_H → Prop}  (hX : Lay S X)  (hh : ((¬ (gI X 23 3) = (((1 : Int32) <<< ((gI X 23 1) &&& 31)) - 1) → Ev E m_se_findBestRow 19 [(0, .ref 23), (1, .int (((1 : Int32) <<< ((gI X 23 1) &&& 31)) - 1))] [] X (0, 0) Q) ∧ ((gI X 23 3) = (((1 : Int32) <<< ((gI X 23 1) &&& 31)) - 1) → Q (some (.int (-3))) X))) : Ev E m_se_findBestRow 0 [(0, .ref 23)] [] X (0, 0) Q := by
  refine ev_aload_n (x := 23) (pc := 0) d_se_findBestRow_0 rfl ?_
  refine ev_getJ (v := (gI X 23 3)) (pc := 1) d_se_findBestRow_1 f_se_45 (ly_at hX 23 rfl) gg_8 rfl rfl ?_
  refine ev_aload_n (x := 23) (pc := 4) d_se_findBestRow_4 rfl ?_
  refine ev_callV (z := m_se_all) (as := []) (rest := [.int (gI X 23 3)]) (pc := 5) d_se_findBestRow_5 (ly_at hX 23 rfl) lt13_8 rfl l_se_97 i_se_all v_se_all o_se_all rfl rfl (Nat.le_of_ble_eq_true rfl) rfl (Nat.le_of_ble_eq_true rfl) ⟨Nat.le_of_ble_eq_true rfl, Nat.le_of_ble_eq_true rfl⟩ (s_se_all hX  ) (fun r X1 hq => ?_)
  obtain ⟨rfl, rfl⟩ := hq
  show Ev E m_se_findBestRow 8 [(0, .ref 23)] [.int (((1 : Int32) <<< ((gI X 23 1) &&& 31)) - 1), .int (gI X 23 3)] X (0, 0) Q
  refine ev_icmp_ne (pc := 8) (tgt := 14) d_se_findBestRow_8 (by decide) (fun c_1 => ?_) (fun c_1 => ?_)
  · have h_2 := hh.1 c_1
    refine ev_aload_n (x := 23) (pc := 14) d_se_findBestRow_14 rfl ?_
    refine ev_callV (z := m_se_all) (as := []) (rest := []) (pc := 15) d_se_findBestRow_15 (ly_at hX 23 rfl) lt13_8 rfl l_se_97 i_se_all v_se_all o_se_all rfl rfl (Nat.le_of_ble_eq_true rfl) rfl (Nat.le_of_ble_eq_true rfl) ⟨Nat.le_of_ble_eq_true rfl, Nat.le_of_ble_eq_true rfl⟩ (s_se_all hX  ) (fun r X1 hq => ?_)
    obtain ⟨rfl, rfl⟩ := hq
    show Ev E m_se_findBestRow 18 [(0, .ref 23)] [.int (((1 : Int32) <<< ((gI X 23 1) &&& 31)) - 1)] X (0, 0) Q
    refine ev_istore_n (L2 := [(0, .ref 23), (1, .int (((1 : Int32) <<< ((gI X 23 1) &&& 31)) - 1))]) (pc := 18) d_se_findBestRow_18 rfl (Nat.le_of_ble_eq_true rfl) rfl ?_
    exact h_2
  · have h_3 := hh.2 c_1
    refine ev_bipush (v := (-3)) (pc := 11) d_se_findBestRow_11 kc_b_m3 ?_
    exact ev_iret (pc := 13) ⟨Nat.le_of_ble_eq_true rfl, Nat.le_of_ble_eq_true rfl⟩ d_se_findBestRow_13 rfl (vp_nar_int _) h_3
theorem b_se_findBestRow_19 {E : gp_E} {S : gp_S} {X : gp_H} {Q : Option Value → gp_H → Prop} {x1 : Int32} (hX : Lay S X)  (hh : ((x1 ≤ (gI X 23 3) → (∃ Qz_4, Ev E m_se_priceAfter 0 [(0, .ref 23), (1, .int (gI X 23 3))] [] X (0, 0) Qz_4 ∧ ∀ r X_7, Qz_4 r X_7 → ∃ v_12 : Int32, r = some (.int v_12) ∧ Lay S X_7 ∧ ((v_12 < 1000000 → (∃ Qz_16, Ev E m_se_tellRow 0 [(0, .ref 23)] [] X_7 (0, 0) Qz_16 ∧ ∀ r X_19, Qz_16 r X_19 → (r = none ∧ Lay S X_19 ∧ Q (some (.int v_12)) X_19))) ∧ (¬ v_12 < 1000000 → Q (some (.int (-3))) X_7)))) ∧ (¬ x1 ≤ (gI X 23 3) → ((¬ (x1 &&& (gI X 23 3)) = (gI X 23 3) → Ev E m_se_findBestRow 19 [(0, .ref 23), (1, .int (x1 + (-1)))] [] X (0, 0) Q) ∧ ((x1 &&& (gI X 23 3)) = (gI X 23 3) → (∃ Qz_27, Ev E m_se_weigh 0 [(0, .ref 23), (1, .int x1)] [] X (0, 0) Qz_27 ∧ ∀ r X_30, Qz_27 r X_30 → (r = none ∧ Lay S X_30 ∧ Ev E m_se_findBestRow 19 [(0, .ref 23), (1, .int (x1 + (-1)))] [] X_30 (0, 0) Q))))))) : Ev E m_se_findBestRow 19 [(0, .ref 23), (1, .int x1)] [] X (0, 0) Q := by
  refine ev_iload_n (x := x1) (pc := 19) d_se_findBestRow_19 rfl ?_
  refine ev_aload_n (x := 23) (pc := 20) d_se_findBestRow_20 rfl ?_
  refine ev_getJ (v := (gI X 23 3)) (pc := 21) d_se_findBestRow_21 f_se_45 (ly_at hX 23 rfl) gg_8 rfl rfl ?_
  refine ev_icmp_le (pc := 24) (tgt := 51) d_se_findBestRow_24 (by decide) (fun c_1 => ?_) (fun c_1 => ?_)
  · have h_2 := hh.1 c_1
    refine ev_aload_n (x := 23) (pc := 51) d_se_findBestRow_51 rfl ?_
    refine ev_aload_n (x := 23) (pc := 52) d_se_findBestRow_52 rfl ?_
    refine ev_getJ (v := (gI X 23 3)) (pc := 53) d_se_findBestRow_53 f_se_45 (ly_at hX 23 rfl) gg_8 rfl rfl ?_
    obtain ⟨Qz_4, hc_5, hk_6⟩ := h_2
    refine ev_callV (z := m_se_priceAfter) (as := [.int (gI X 23 3)]) (rest := []) (pc := 56) d_se_findBestRow_56 (ly_at hX 23 rfl) lt13_8 rfl l_se_104 i_se_priceAfter v_se_priceAfter o_se_priceAfter rfl rfl (Nat.le_of_ble_eq_true rfl) rfl (Nat.le_of_ble_eq_true rfl) ⟨Nat.le_of_ble_eq_true rfl, Nat.le_of_ble_eq_true rfl⟩ hc_5 (fun r_8 X_7 hq_9 => ?_)
    obtain ⟨v_12, rfl, hX_11, h_10⟩ := hk_6 _ _ hq_9
    show Ev E m_se_findBestRow 59 [(0, .ref 23), (1, .int x1)] [.int v_12] X_7 (0, 0) Q
    refine ev_istore_n (L2 := [(0, .ref 23), (1, .int v_12)]) (pc := 59) d_se_findBestRow_59 rfl (Nat.le_of_ble_eq_true rfl) rfl ?_
    refine ev_iload_n (x := v_12) (pc := 60) d_se_findBestRow_60 rfl ?_
    refine ev_ldc (pc := 61) d_se_findBestRow_61 k_se_107 ?_
    refine ev_icmp_lt (pc := 63) (tgt := 69) d_se_findBestRow_63 (by decide) (fun c_13 => ?_) (fun c_13 => ?_)
    · have h_14 := h_10.1 c_13
      refine ev_aload_n (x := 23) (pc := 69) d_se_findBestRow_69 rfl ?_
      obtain ⟨Qz_16, hc_17, hk_18⟩ := h_14
      refine ev_callV (z := m_se_tellRow) (as := []) (rest := []) (pc := 70) d_se_findBestRow_70 (ly_at hX_11 23 rfl) lt13_8 rfl l_se_108 i_se_tellRow v_se_tellRow o_se_tellRow rfl rfl (Nat.le_of_ble_eq_true rfl) rfl (Nat.le_of_ble_eq_true rfl) ⟨Nat.le_of_ble_eq_true rfl, Nat.le_of_ble_eq_true rfl⟩ hc_17 (fun r_20 X_19 hq_21 => ?_)
      obtain ⟨rfl, hX_23, h_22⟩ := hk_18 _ _ hq_21
      show Ev E m_se_findBestRow 73 [(0, .ref 23), (1, .int v_12)] [] X_19 (0, 0) Q
      refine ev_iload_n (x := v_12) (pc := 73) d_se_findBestRow_73 rfl ?_
      exact ev_iret (pc := 74) ⟨Nat.le_of_ble_eq_true rfl, Nat.le_of_ble_eq_true rfl⟩ d_se_findBestRow_74 rfl (vp_nar_int _) h_22
    · have h_15 := h_10.2 c_13
      refine ev_bipush (v := (-3)) (pc := 66) d_se_findBestRow_66 kc_b_m3 ?_
      exact ev_iret (pc := 68) ⟨Nat.le_of_ble_eq_true rfl, Nat.le_of_ble_eq_true rfl⟩ d_se_findBestRow_68 rfl (vp_nar_int _) h_15
  · have h_3 := hh.2 c_1
    refine ev_iload_n (x := x1) (pc := 27) d_se_findBestRow_27 rfl ?_
    refine ev_aload_n (x := 23) (pc := 28) d_se_findBestRow_28 rfl ?_
    refine ev_getJ (v := (gI X 23 3)) (pc := 29) d_se_findBestRow_29 f_se_45 (ly_at hX 23 rfl) gg_8 rfl rfl ?_
    refine ev_iand (pc := 32) d_se_findBestRow_32 ?_
    refine ev_aload_n (x := 23) (pc := 33) d_se_findBestRow_33 rfl ?_
    refine ev_getJ (v := (gI X 23 3)) (pc := 34) d_se_findBestRow_34 f_se_45 (ly_at hX 23 rfl) gg_8 rfl rfl ?_
    refine ev_icmp_ne (pc := 37) (tgt := 45) d_se_findBestRow_37 (by decide) (fun c_24 => ?_) (fun c_24 => ?_)
    · have h_25 := h_3.1 c_24
      refine ev_iinc (v := (x1 + (-1))) (L2 := [(0, .ref 23), (1, .int (x1 + (-1)))]) (pc := 45) d_se_findBestRow_45 rfl (by rw [kc_i_m1]) rfl (Nat.le_of_ble_eq_true rfl) rfl ?_
      refine ev_goto (pc := 48) (tgt := 19) d_se_findBestRow_48 (by decide) ?_
      exact h_25
    · have h_26 := h_3.2 c_24
      refine ev_aload_n (x := 23) (pc := 40) d_se_findBestRow_40 rfl ?_
      refine ev_iload_n (x := x1) (pc := 41) d_se_findBestRow_41 rfl ?_
      obtain ⟨Qz_27, hc_28, hk_29⟩ := h_26
      refine ev_callV (z := m_se_weigh) (as := [.int x1]) (rest := []) (pc := 42) d_se_findBestRow_42 (ly_at hX 23 rfl) lt13_8 rfl l_se_100 i_se_weigh v_se_weigh o_se_weigh rfl rfl (Nat.le_of_ble_eq_true rfl) rfl (Nat.le_of_ble_eq_true rfl) ⟨Nat.le_of_ble_eq_true rfl, Nat.le_of_ble_eq_true rfl⟩ hc_28 (fun r_31 X_30 hq_32 => ?_)
      obtain ⟨rfl, hX_34, h_33⟩ := hk_29 _ _ hq_32
      show Ev E m_se_findBestRow 45 [(0, .ref 23), (1, .int x1)] [] X_30 (0, 0) Q
      refine ev_iinc (v := (x1 + (-1))) (L2 := [(0, .ref 23), (1, .int (x1 + (-1)))]) (pc := 45) d_se_findBestRow_45 rfl (by rw [kc_i_m1]) rfl (Nat.le_of_ble_eq_true rfl) rfl ?_
      refine ev_goto (pc := 48) (tgt := 19) d_se_findBestRow_48 (by decide) ?_
      exact h_33
theorem b_se_weigh_0 {E : gp_E} {S : gp_S} {X : gp_H} {Q : Option Value → gp_H → Prop} {x1 : Int32} (hX : Lay S X)  (hh : (∃ Qz_1, Ev E m_se_knotsOf 0 [(0, .ref 23), (1, .int x1)] [] X (0, 0) Qz_1 ∧ ∀ r X_4, Qz_1 r X_4 → ∃ v_9 : Int32, r = some (.int v_9) ∧ Lay S X_4 ∧ (∃ Qz_10, Ev E m_se_priceAfter 0 [(0, .ref 23), (1, .int x1)] [] X_4 (0, 0) Qz_10 ∧ ∀ r X_13, Qz_10 r X_13 → ∃ v_18 : Int32, r = some (.int v_18) ∧ Lay S X_13 ∧ (vp_in x1 128 ∧ ((1000000 ≤ v_18 → Q none (gp_sI X_13 28 (Int32.toNatClampNeg x1) 1000000)) ∧ (¬ 1000000 ≤ v_18 → (∃ Qz_22, Ev E m_ne_canBePartedFromRest 0 [(0, .ref 1), (1, .int v_9)] [] (gp_sI X_13 28 (Int32.toNatClampNeg x1) 1000000) (0, 0) Qz_22 ∧ ∀ r X_25, Qz_22 r X_25 → ∃ v_30 : Int32, r = some (.int v_30) ∧ Lay S X_25 ∧ ((v_30 = 0 → Q none X_25) ∧ (¬ v_30 = 0 → (∃ Qz_34, Ev E m_se_restIsSupplied 0 [(0, .ref 23), (1, .int v_9)] [] X_25 (0, 0) Qz_34 ∧ ∀ r X_37, Qz_34 r X_37 → ∃ v_42 : Int32, r = some (.int v_42) ∧ Lay S X_37 ∧ ((¬ v_42 = 0 → (∃ Qz_46, Ev E m_ne_pipesToRest 0 [(0, .ref 1), (1, .int v_9)] [] X_37 (0, 0) Qz_46 ∧ ∀ r X_49, Qz_46 r X_49 → ∃ v_54 : Int32, r = some (.int v_54) ∧ Lay S X_49 ∧ (∃ Qz_55, Ev E m_ne_fedWithin 0 [(0, .ref 1), (1, .int v_9)] [] (gp_sI X_49 28 (Int32.toNatClampNeg x1) (v_18 + v_54)) (0, 0) Qz_55 ∧ ∀ r X_58, Qz_55 r X_58 → ∃ v_63 : Int32, r = some (.int v_63) ∧ Lay S X_58 ∧ Q none (gp_sI X_58 29 (Int32.toNatClampNeg x1) v_63)))) ∧ (v_42 = 0 → Q none X_37)))))))))))) : Ev E m_se_weigh 0 [(0, .ref 23), (1, .int x1)] [] X (0, 0) Q := by
  refine ev_aload_n (x := 23) (pc := 0) d_se_weigh_0 rfl ?_
  refine ev_iload_n (x := x1) (pc := 1) d_se_weigh_1 rfl ?_
  obtain ⟨Qz_1, hc_2, hk_3⟩ := hh
  refine ev_callV (z := m_se_knotsOf) (as := [.int x1]) (rest := []) (pc := 2) d_se_weigh_2 (ly_at hX 23 rfl) lt13_8 rfl l_se_52 i_se_knotsOf v_se_knotsOf o_se_knotsOf rfl rfl (Nat.le_of_ble_eq_true rfl) rfl (Nat.le_of_ble_eq_true rfl) ⟨Nat.le_of_ble_eq_true rfl, Nat.le_of_ble_eq_true rfl⟩ hc_2 (fun r_5 X_4 hq_6 => ?_)
  obtain ⟨v_9, rfl, hX_8, h_7⟩ := hk_3 _ _ hq_6
  show Ev E m_se_weigh 5 [(0, .ref 23), (1, .int x1)] [.int v_9] X_4 (0, 0) Q
  refine ev_istore_n (L2 := [(0, .ref 23), (1, .int x1), (2, .int v_9)]) (pc := 5) d_se_weigh_5 rfl (Nat.le_of_ble_eq_true rfl) rfl ?_
  refine ev_aload_n (x := 23) (pc := 6) d_se_weigh_6 rfl ?_
  refine ev_iload_n (x := x1) (pc := 7) d_se_weigh_7 rfl ?_
  obtain ⟨Qz_10, hc_11, hk_12⟩ := h_7
  refine ev_callV (z := m_se_priceAfter) (as := [.int x1]) (rest := []) (pc := 8) d_se_weigh_8 (ly_at hX_8 23 rfl) lt13_8 rfl l_se_104 i_se_priceAfter v_se_priceAfter o_se_priceAfter rfl rfl (Nat.le_of_ble_eq_true rfl) rfl (Nat.le_of_ble_eq_true rfl) ⟨Nat.le_of_ble_eq_true rfl, Nat.le_of_ble_eq_true rfl⟩ hc_11 (fun r_14 X_13 hq_15 => ?_)
  obtain ⟨v_18, rfl, hX_17, h_16⟩ := hk_12 _ _ hq_15
  show Ev E m_se_weigh 11 [(0, .ref 23), (1, .int x1), (2, .int v_9)] [.int v_18] X_13 (0, 0) Q
  refine ev_istore_n (L2 := [(0, .ref 23), (1, .int x1), (2, .int v_9), (3, .int v_18)]) (pc := 11) d_se_weigh_11 rfl (Nat.le_of_ble_eq_true rfl) rfl ?_
  refine ev_aload_n (x := 23) (pc := 12) d_se_weigh_12 rfl ?_
  refine ev_getR (pc := 13) d_se_weigh_13 f_se_24 (ly_at hX_17 23 rfl) gg_8 rfl (ly_rf hX_17 23 9 rfl) ?_
  refine ev_iload_n (x := x1) (pc := 16) d_se_weigh_16 rfl ?_
  refine ev_ldc (pc := 17) d_se_weigh_17 k_se_107 ?_
  refine ev_iast (pc := 19) d_se_weigh_19 (ly_at hX_17 28 rfl) h_16.1 ?_
  refine ev_iload_n (x := v_18) (pc := 20) d_se_weigh_20 rfl ?_
  refine ev_ldc (pc := 21) d_se_weigh_21 k_se_107 ?_
  refine ev_icmp_ge (pc := 23) (tgt := 45) d_se_weigh_23 (by decide) (fun c_19 => ?_) (fun c_19 => ?_)
  · have h_20 := h_16.2.1 c_19
    exact ev_ret (pc := 45) ⟨Nat.le_of_ble_eq_true rfl, Nat.le_of_ble_eq_true rfl⟩ d_se_weigh_45 rfl h_20
  · have h_21 := h_16.2.2 c_19
    refine ev_aload_n (x := 23) (pc := 26) d_se_weigh_26 rfl ?_
    refine ev_getR (pc := 27) d_se_weigh_27 f_se_33 (ly_at (ly_sI hX_17) 23 rfl) gg_8 rfl (ly_rf (ly_sI hX_17) 23 0 rfl) ?_
    refine ev_iload_n (x := v_9) (pc := 30) d_se_weigh_30 rfl ?_
    obtain ⟨Qz_22, hc_23, hk_24⟩ := h_21
    refine ev_callV (z := m_ne_canBePartedFromRest) (as := [.int v_9]) (rest := []) (pc := 31) d_se_weigh_31 (ly_at (ly_sI hX_17) 1 rfl) lt13_5 rfl l_se_67 i_ne_canBePartedFromRest v_ne_canBePartedFromRest o_ne_canBePartedFromRest rfl rfl (Nat.le_of_ble_eq_true rfl) rfl (Nat.le_of_ble_eq_true rfl) ⟨Nat.le_of_ble_eq_true rfl, Nat.le_of_ble_eq_true rfl⟩ hc_23 (fun r_26 X_25 hq_27 => ?_)
    obtain ⟨v_30, rfl, hX_29, h_28⟩ := hk_24 _ _ hq_27
    show Ev E m_se_weigh 34 [(0, .ref 23), (1, .int x1), (2, .int v_9), (3, .int v_18)] [.int v_30] X_25 (0, 0) Q
    refine ev_if_eq (pc := 34) (tgt := 45) d_se_weigh_34 (by decide) (fun c_31 => ?_) (fun c_31 => ?_)
    · have h_32 := h_28.1 c_31
      exact ev_ret (pc := 45) ⟨Nat.le_of_ble_eq_true rfl, Nat.le_of_ble_eq_true rfl⟩ d_se_weigh_45 rfl h_32
    · have h_33 := h_28.2 c_31
      refine ev_aload_n (x := 23) (pc := 37) d_se_weigh_37 rfl ?_
      refine ev_iload_n (x := v_9) (pc := 38) d_se_weigh_38 rfl ?_
      obtain ⟨Qz_34, hc_35, hk_36⟩ := h_33
      refine ev_callV (z := m_se_restIsSupplied) (as := [.int v_9]) (rest := []) (pc := 39) d_se_weigh_39 (ly_at hX_29 23 rfl) lt13_8 rfl l_se_75 i_se_restIsSupplied v_se_restIsSupplied o_se_restIsSupplied rfl rfl (Nat.le_of_ble_eq_true rfl) rfl (Nat.le_of_ble_eq_true rfl) ⟨Nat.le_of_ble_eq_true rfl, Nat.le_of_ble_eq_true rfl⟩ hc_35 (fun r_38 X_37 hq_39 => ?_)
      obtain ⟨v_42, rfl, hX_41, h_40⟩ := hk_36 _ _ hq_39
      show Ev E m_se_weigh 42 [(0, .ref 23), (1, .int x1), (2, .int v_9), (3, .int v_18)] [.int v_42] X_37 (0, 0) Q
      refine ev_if_ne (pc := 42) (tgt := 46) d_se_weigh_42 (by decide) (fun c_43 => ?_) (fun c_43 => ?_)
      · have h_44 := h_40.1 c_43
        refine ev_aload_n (x := 23) (pc := 46) d_se_weigh_46 rfl ?_
        refine ev_getR (pc := 47) d_se_weigh_47 f_se_24 (ly_at hX_41 23 rfl) gg_8 rfl (ly_rf hX_41 23 9 rfl) ?_
        refine ev_iload_n (x := x1) (pc := 50) d_se_weigh_50 rfl ?_
        refine ev_iload_n (x := v_18) (pc := 51) d_se_weigh_51 rfl ?_
        refine ev_aload_n (x := 23) (pc := 52) d_se_weigh_52 rfl ?_
        refine ev_getR (pc := 53) d_se_weigh_53 f_se_33 (ly_at hX_41 23 rfl) gg_8 rfl (ly_rf hX_41 23 0 rfl) ?_
        refine ev_iload_n (x := v_9) (pc := 56) d_se_weigh_56 rfl ?_
        obtain ⟨Qz_46, hc_47, hk_48⟩ := h_44
        refine ev_callV (z := m_ne_pipesToRest) (as := [.int v_9]) (rest := [.int v_18, .int x1, .ref 28]) (pc := 57) d_se_weigh_57 (ly_at hX_41 1 rfl) lt13_5 rfl l_se_111 i_ne_pipesToRest v_ne_pipesToRest o_ne_pipesToRest rfl rfl (Nat.le_of_ble_eq_true rfl) rfl (Nat.le_of_ble_eq_true rfl) ⟨Nat.le_of_ble_eq_true rfl, Nat.le_of_ble_eq_true rfl⟩ hc_47 (fun r_50 X_49 hq_51 => ?_)
        obtain ⟨v_54, rfl, hX_53, h_52⟩ := hk_48 _ _ hq_51
        show Ev E m_se_weigh 60 [(0, .ref 23), (1, .int x1), (2, .int v_9), (3, .int v_18)] [.int v_54, .int v_18, .int x1, .ref 28] X_49 (0, 0) Q
        refine ev_iadd (pc := 60) d_se_weigh_60 ?_
        refine ev_iast (pc := 61) d_se_weigh_61 (ly_at hX_53 28 rfl) h_16.1 ?_
        refine ev_aload_n (x := 23) (pc := 62) d_se_weigh_62 rfl ?_
        refine ev_getR (pc := 63) d_se_weigh_63 f_se_27 (ly_at (ly_sI hX_53) 23 rfl) gg_8 rfl (ly_rf (ly_sI hX_53) 23 10 rfl) ?_
        refine ev_iload_n (x := x1) (pc := 66) d_se_weigh_66 rfl ?_
        refine ev_aload_n (x := 23) (pc := 67) d_se_weigh_67 rfl ?_
        refine ev_getR (pc := 68) d_se_weigh_68 f_se_33 (ly_at (ly_sI hX_53) 23 rfl) gg_8 rfl (ly_rf (ly_sI hX_53) 23 0 rfl) ?_
        refine ev_iload_n (x := v_9) (pc := 71) d_se_weigh_71 rfl ?_
        obtain ⟨Qz_55, hc_56, hk_57⟩ := h_52
        refine ev_callV (z := m_ne_fedWithin) (as := [.int v_9]) (rest := [.int x1, .ref 29]) (pc := 72) d_se_weigh_72 (ly_at (ly_sI hX_53) 1 rfl) lt13_5 rfl l_se_72 i_ne_fedWithin v_ne_fedWithin o_ne_fedWithin rfl rfl (Nat.le_of_ble_eq_true rfl) rfl (Nat.le_of_ble_eq_true rfl) ⟨Nat.le_of_ble_eq_true rfl, Nat.le_of_ble_eq_true rfl⟩ hc_56 (fun r_59 X_58 hq_60 => ?_)
        obtain ⟨v_63, rfl, hX_62, h_61⟩ := hk_57 _ _ hq_60
        show Ev E m_se_weigh 75 [(0, .ref 23), (1, .int x1), (2, .int v_9), (3, .int v_18)] [.int v_63, .int x1, .ref 29] X_58 (0, 0) Q
        refine ev_iast (pc := 75) d_se_weigh_75 (ly_at hX_62 29 rfl) h_16.1 ?_
        exact ev_ret (pc := 76) ⟨Nat.le_of_ble_eq_true rfl, Nat.le_of_ble_eq_true rfl⟩ d_se_weigh_76 rfl h_61
      · have h_45 := h_40.2 c_43
        exact ev_ret (pc := 45) ⟨Nat.le_of_ble_eq_true rfl, Nat.le_of_ble_eq_true rfl⟩ d_se_weigh_45 rfl h_45
theorem b_se_priceAfter_0 {E : gp_E} {S : gp_S} {X : gp_H} {Q : Option Value → gp_H → Prop} {x1 : Int32} (hX : Lay S X)  (hh : ((¬ x1 = (((1 : Int32) <<< ((gI X 23 1) &&& 31)) - 1) → Ev E m_se_priceAfter 15 [(0, .ref 23), (1, .int x1), (2, .int 1000000), (3, .int 0)] [] X (0, 0) Q) ∧ (x1 = (((1 : Int32) <<< ((gI X 23 1) &&& 31)) - 1) → Q (some (.int 0)) X))) : Ev E m_se_priceAfter 0 [(0, .ref 23), (1, .int x1)] [] X (0, 0) Q := by
  refine ev_iload_n (x := x1) (pc := 0) d_se_priceAfter_0 rfl ?_
  refine ev_aload_n (x := 23) (pc := 1) d_se_priceAfter_1 rfl ?_
  refine ev_callV (z := m_se_all) (as := []) (rest := [.int x1]) (pc := 2) d_se_priceAfter_2 (ly_at hX 23 rfl) lt13_8 rfl l_se_97 i_se_all v_se_all o_se_all rfl rfl (Nat.le_of_ble_eq_true rfl) rfl (Nat.le_of_ble_eq_true rfl) ⟨Nat.le_of_ble_eq_true rfl, Nat.le_of_ble_eq_true rfl⟩ (s_se_all hX  ) (fun r X1 hq => ?_)
  obtain ⟨rfl, rfl⟩ := hq
  show Ev E m_se_priceAfter 5 [(0, .ref 23), (1, .int x1)] [.int (((1 : Int32) <<< ((gI X 23 1) &&& 31)) - 1), .int x1] X (0, 0) Q
  refine ev_icmp_ne (pc := 5) (tgt := 10) d_se_priceAfter_5 (by decide) (fun c_1 => ?_) (fun c_1 => ?_)
  · have h_2 := hh.1 c_1
    refine ev_ldc (pc := 10) d_se_priceAfter_10 k_se_107 ?_
    refine ev_istore_n (L2 := [(0, .ref 23), (1, .int x1), (2, .int 1000000)]) (pc := 12) d_se_priceAfter_12 rfl (Nat.le_of_ble_eq_true rfl) rfl ?_
    refine ev_iconst (v := 0) (pc := 13) d_se_priceAfter_13 kc_i_0 ?_
    refine ev_istore_n (L2 := [(0, .ref 23), (1, .int x1), (2, .int 1000000), (3, .int 0)]) (pc := 14) d_se_priceAfter_14 rfl (Nat.le_of_ble_eq_true rfl) rfl ?_
    exact h_2
  · have h_3 := hh.2 c_1
    refine ev_iconst (v := 0) (pc := 8) d_se_priceAfter_8 kc_i_0 ?_
    exact ev_iret (pc := 9) ⟨Nat.le_of_ble_eq_true rfl, Nat.le_of_ble_eq_true rfl⟩ d_se_priceAfter_9 rfl (vp_nar_int _) h_3
theorem b_se_priceAfter_15 {E : gp_E} {S : gp_S} {X : gp_H} {Q : Option Value → gp_H → Prop} {x1 : Int32} {x2 : Int32} {x3 : Int32} (hX : Lay S X)  (hh : (((gI X 23 1) ≤ x3 → Q (some (.int x2)) X) ∧ (¬ (gI X 23 1) ≤ x3 → (((x1 ||| ((1 : Int32) <<< (x3 &&& 31))) = x1 → Ev E m_se_priceAfter 15 [(0, .ref 23), (1, .int x1), (2, .int x2), (3, .int (x3 + 1))] [] X (0, 0) Q) ∧ (¬ (x1 ||| ((1 : Int32) <<< (x3 &&& 31))) = x1 → (vp_in x3 7 ∧ (vp_in (x1 ||| ((1 : Int32) <<< (x3 &&& 31))) 128 ∧ ((((gI X 24 (Int32.toNatClampNeg x3)) &&& ((gI X 29 (Int32.toNatClampNeg (x1 ||| ((1 : Int32) <<< (x3 &&& 31))))) ^^^ (-1))) = 0 → ((x2 ≤ (gI X 28 (Int32.toNatClampNeg (x1 ||| ((1 : Int32) <<< (x3 &&& 31))))) → Ev E m_se_priceAfter 15 [(0, .ref 23), (1, .int x1), (2, .int x2), (3, .int (x3 + 1))] [] X (0, 0) Q) ∧ (¬ x2 ≤ (gI X 28 (Int32.toNatClampNeg (x1 ||| ((1 : Int32) <<< (x3 &&& 31))))) → (vp_in x1 128 ∧ Ev E m_se_priceAfter 15 [(0, .ref 23), (1, .int x1), (2, .int (gI X 28 (Int32.toNatClampNeg (x1 ||| ((1 : Int32) <<< (x3 &&& 31)))))), (3, .int (x3 + 1))] [] (gp_sI X 30 (Int32.toNatClampNeg x1) x3) (0, 0) Q)))) ∧ (¬ ((gI X 24 (Int32.toNatClampNeg x3)) &&& ((gI X 29 (Int32.toNatClampNeg (x1 ||| ((1 : Int32) <<< (x3 &&& 31))))) ^^^ (-1))) = 0 → Ev E m_se_priceAfter 15 [(0, .ref 23), (1, .int x1), (2, .int x2), (3, .int (x3 + 1))] [] X (0, 0) Q))))))))) : Ev E m_se_priceAfter 15 [(0, .ref 23), (1, .int x1), (2, .int x2), (3, .int x3)] [] X (0, 0) Q := by
  refine ev_iload_n (x := x3) (pc := 15) d_se_priceAfter_15 rfl ?_
  refine ev_aload_n (x := 23) (pc := 16) d_se_priceAfter_16 rfl ?_
  refine ev_getJ (v := (gI X 23 1)) (pc := 17) d_se_priceAfter_17 f_se_37 (ly_at hX 23 rfl) gg_8 rfl rfl ?_
  refine ev_icmp_ge (pc := 20) (tgt := 90) d_se_priceAfter_20 (by decide) (fun c_1 => ?_) (fun c_1 => ?_)
  · have h_2 := hh.1 c_1
    refine ev_iload_n (x := x2) (pc := 90) d_se_priceAfter_90 rfl ?_
    exact ev_iret (pc := 91) ⟨Nat.le_of_ble_eq_true rfl, Nat.le_of_ble_eq_true rfl⟩ d_se_priceAfter_91 rfl (vp_nar_int _) h_2
  · have h_3 := hh.2 c_1
    refine ev_iload_n (x := x1) (pc := 23) d_se_priceAfter_23 rfl ?_
    refine ev_iconst (v := 1) (pc := 24) d_se_priceAfter_24 kc_i_1 ?_
    refine ev_iload_n (x := x3) (pc := 25) d_se_priceAfter_25 rfl ?_
    refine ev_ishl (pc := 26) d_se_priceAfter_26 ?_
    refine ev_ior (pc := 27) d_se_priceAfter_27 ?_
    refine ev_istore (L2 := [(0, .ref 23), (1, .int x1), (2, .int x2), (3, .int x3), (4, .int (x1 ||| ((1 : Int32) <<< (x3 &&& 31))))]) (pc := 28) d_se_priceAfter_28 rfl (Nat.le_of_ble_eq_true rfl) rfl ?_
    refine ev_iload (x := (x1 ||| ((1 : Int32) <<< (x3 &&& 31)))) (pc := 30) d_se_priceAfter_30 rfl ?_
    refine ev_iload_n (x := x1) (pc := 32) d_se_priceAfter_32 rfl ?_
    refine ev_icmp_eq (pc := 33) (tgt := 84) d_se_priceAfter_33 (by decide) (fun c_4 => ?_) (fun c_4 => ?_)
    · have h_5 := h_3.1 c_4
      refine ev_iinc (v := (x3 + 1)) (L2 := [(0, .ref 23), (1, .int x1), (2, .int x2), (3, .int (x3 + 1)), (4, .int (x1 ||| ((1 : Int32) <<< (x3 &&& 31))))]) (pc := 84) d_se_priceAfter_84 rfl (by rw [kc_i_1]) rfl (Nat.le_of_ble_eq_true rfl) rfl ?_
      refine ev_goto (pc := 87) (tgt := 15) d_se_priceAfter_87 (by decide) ?_
      exact ev_sub [(0, .ref 23), (1, .int x1), (2, .int x2), (3, .int (x3 + 1))] (List.forall_mem_cons.mpr ⟨rfl, (List.forall_mem_cons.mpr ⟨rfl, (List.forall_mem_cons.mpr ⟨rfl, (List.forall_mem_cons.mpr ⟨rfl, (fun _ h => nomatch h)⟩)⟩)⟩)⟩) h_5
    · have h_6 := h_3.2 c_4
      refine ev_aload_n (x := 23) (pc := 36) d_se_priceAfter_36 rfl ?_
      refine ev_getR (pc := 37) d_se_priceAfter_37 f_se_9 (ly_at hX 23 rfl) gg_8 rfl (ly_rf hX 23 2 rfl) ?_
      refine ev_iload_n (x := x3) (pc := 40) d_se_priceAfter_40 rfl ?_
      refine ev_ialdJ (v := (gI X 24 (Int32.toNatClampNeg x3))) (pc := 41) d_se_priceAfter_41 (ly_at hX 24 rfl) h_6.1 rfl ?_
      refine ev_aload_n (x := 23) (pc := 42) d_se_priceAfter_42 rfl ?_
      refine ev_getR (pc := 43) d_se_priceAfter_43 f_se_27 (ly_at hX 23 rfl) gg_8 rfl (ly_rf hX 23 10 rfl) ?_
      refine ev_iload (x := (x1 ||| ((1 : Int32) <<< (x3 &&& 31)))) (pc := 46) d_se_priceAfter_46 rfl ?_
      refine ev_ialdJ (v := (gI X 29 (Int32.toNatClampNeg (x1 ||| ((1 : Int32) <<< (x3 &&& 31)))))) (pc := 48) d_se_priceAfter_48 (ly_at hX 29 rfl) h_6.2.1 rfl ?_
      refine ev_iconst (v := (-1)) (pc := 49) d_se_priceAfter_49 kc_i_m1 ?_
      refine ev_ixor (pc := 50) d_se_priceAfter_50 ?_
      refine ev_iand (pc := 51) d_se_priceAfter_51 ?_
      refine ev_if_eq (pc := 52) (tgt := 58) d_se_priceAfter_52 (by decide) (fun c_7 => ?_) (fun c_7 => ?_)
      · have h_8 := h_6.2.2.1 c_7
        refine ev_aload_n (x := 23) (pc := 58) d_se_priceAfter_58 rfl ?_
        refine ev_getR (pc := 59) d_se_priceAfter_59 f_se_24 (ly_at hX 23 rfl) gg_8 rfl (ly_rf hX 23 9 rfl) ?_
        refine ev_iload (x := (x1 ||| ((1 : Int32) <<< (x3 &&& 31)))) (pc := 62) d_se_priceAfter_62 rfl ?_
        refine ev_ialdJ (v := (gI X 28 (Int32.toNatClampNeg (x1 ||| ((1 : Int32) <<< (x3 &&& 31)))))) (pc := 64) d_se_priceAfter_64 (ly_at hX 28 rfl) h_6.2.1 rfl ?_
        refine ev_iload_n (x := x2) (pc := 65) d_se_priceAfter_65 rfl ?_
        refine ev_icmp_ge (pc := 66) (tgt := 84) d_se_priceAfter_66 (by decide) (fun c_10 => ?_) (fun c_10 => ?_)
        · have h_11 := h_8.1 c_10
          refine ev_iinc (v := (x3 + 1)) (L2 := [(0, .ref 23), (1, .int x1), (2, .int x2), (3, .int (x3 + 1)), (4, .int (x1 ||| ((1 : Int32) <<< (x3 &&& 31))))]) (pc := 84) d_se_priceAfter_84 rfl (by rw [kc_i_1]) rfl (Nat.le_of_ble_eq_true rfl) rfl ?_
          refine ev_goto (pc := 87) (tgt := 15) d_se_priceAfter_87 (by decide) ?_
          exact ev_sub [(0, .ref 23), (1, .int x1), (2, .int x2), (3, .int (x3 + 1))] (List.forall_mem_cons.mpr ⟨rfl, (List.forall_mem_cons.mpr ⟨rfl, (List.forall_mem_cons.mpr ⟨rfl, (List.forall_mem_cons.mpr ⟨rfl, (fun _ h => nomatch h)⟩)⟩)⟩)⟩) h_11
        · have h_12 := h_8.2 c_10
          refine ev_aload_n (x := 23) (pc := 69) d_se_priceAfter_69 rfl ?_
          refine ev_getR (pc := 70) d_se_priceAfter_70 f_se_24 (ly_at hX 23 rfl) gg_8 rfl (ly_rf hX 23 9 rfl) ?_
          refine ev_iload (x := (x1 ||| ((1 : Int32) <<< (x3 &&& 31)))) (pc := 73) d_se_priceAfter_73 rfl ?_
          refine ev_ialdJ (v := (gI X 28 (Int32.toNatClampNeg (x1 ||| ((1 : Int32) <<< (x3 &&& 31)))))) (pc := 75) d_se_priceAfter_75 (ly_at hX 28 rfl) h_6.2.1 rfl ?_
          refine ev_istore_n (L2 := [(0, .ref 23), (1, .int x1), (2, .int (gI X 28 (Int32.toNatClampNeg (x1 ||| ((1 : Int32) <<< (x3 &&& 31)))))), (3, .int x3), (4, .int (x1 ||| ((1 : Int32) <<< (x3 &&& 31))))]) (pc := 76) d_se_priceAfter_76 rfl (Nat.le_of_ble_eq_true rfl) rfl ?_
          refine ev_aload_n (x := 23) (pc := 77) d_se_priceAfter_77 rfl ?_
          refine ev_getR (pc := 78) d_se_priceAfter_78 f_se_30 (ly_at hX 23 rfl) gg_8 rfl (ly_rf hX 23 11 rfl) ?_
          refine ev_iload_n (x := x1) (pc := 81) d_se_priceAfter_81 rfl ?_
          refine ev_iload_n (x := x3) (pc := 82) d_se_priceAfter_82 rfl ?_
          refine ev_iast (pc := 83) d_se_priceAfter_83 (ly_at hX 30 rfl) h_12.1 ?_
          refine ev_iinc (v := (x3 + 1)) (L2 := [(0, .ref 23), (1, .int x1), (2, .int (gI X 28 (Int32.toNatClampNeg (x1 ||| ((1 : Int32) <<< (x3 &&& 31)))))), (3, .int (x3 + 1)), (4, .int (x1 ||| ((1 : Int32) <<< (x3 &&& 31))))]) (pc := 84) d_se_priceAfter_84 rfl (by rw [kc_i_1]) rfl (Nat.le_of_ble_eq_true rfl) rfl ?_
          refine ev_goto (pc := 87) (tgt := 15) d_se_priceAfter_87 (by decide) ?_
          exact ev_sub [(0, .ref 23), (1, .int x1), (2, .int (gI X 28 (Int32.toNatClampNeg (x1 ||| ((1 : Int32) <<< (x3 &&& 31)))))), (3, .int (x3 + 1))] (List.forall_mem_cons.mpr ⟨rfl, (List.forall_mem_cons.mpr ⟨rfl, (List.forall_mem_cons.mpr ⟨rfl, (List.forall_mem_cons.mpr ⟨rfl, (fun _ h => nomatch h)⟩)⟩)⟩)⟩) h_12.2
      · have h_9 := h_6.2.2.2 c_7
        refine ev_goto (pc := 55) (tgt := 84) d_se_priceAfter_55 (by decide) ?_
        refine ev_iinc (v := (x3 + 1)) (L2 := [(0, .ref 23), (1, .int x1), (2, .int x2), (3, .int (x3 + 1)), (4, .int (x1 ||| ((1 : Int32) <<< (x3 &&& 31))))]) (pc := 84) d_se_priceAfter_84 rfl (by rw [kc_i_1]) rfl (Nat.le_of_ble_eq_true rfl) rfl ?_
        refine ev_goto (pc := 87) (tgt := 15) d_se_priceAfter_87 (by decide) ?_
        exact ev_sub [(0, .ref 23), (1, .int x1), (2, .int x2), (3, .int (x3 + 1))] (List.forall_mem_cons.mpr ⟨rfl, (List.forall_mem_cons.mpr ⟨rfl, (List.forall_mem_cons.mpr ⟨rfl, (List.forall_mem_cons.mpr ⟨rfl, (fun _ h => nomatch h)⟩)⟩)⟩)⟩) h_9
theorem b_se_tellRow_0 {E : gp_E} {S : gp_S} {X : gp_H} {Q : Option Value → gp_H → Prop}  (hX : Lay S X)  (hh : Ev E m_se_tellRow 12 [(0, .ref 23), (1, .int (gI X 23 3)), (2, .int 0)] [] (gp_sI X 23 6 0) (0, 0) Q) : Ev E m_se_tellRow 0 [(0, .ref 23)] [] X (0, 0) Q := by
  refine ev_aload_n (x := 23) (pc := 0) d_se_tellRow_0 rfl ?_
  refine ev_iconst (v := 0) (pc := 1) d_se_tellRow_1 kc_i_0 ?_
  refine ev_putI (pc := 2) d_se_tellRow_2 f_se_114 (ly_at hX 23 rfl) gg_8 rfl (Or.inl rfl) (vp_nar_int _) rfl ?_
  refine ev_aload_n (x := 23) (pc := 5) d_se_tellRow_5 rfl ?_
  refine ev_getJ (v := (gI X 23 3)) (pc := 6) d_se_tellRow_6 f_se_45 (ly_at (ly_sI hX) 23 rfl) gg_8 rfl rfl ?_
  refine ev_istore_n (L2 := [(0, .ref 23), (1, .int (gI X 23 3))]) (pc := 9) d_se_tellRow_9 rfl (Nat.le_of_ble_eq_true rfl) rfl ?_
  refine ev_iconst (v := 0) (pc := 10) d_se_tellRow_10 kc_i_0 ?_
  refine ev_istore_n (L2 := [(0, .ref 23), (1, .int (gI X 23 3)), (2, .int 0)]) (pc := 11) d_se_tellRow_11 rfl (Nat.le_of_ble_eq_true rfl) rfl ?_
  exact hh
theorem b_se_tellRow_12 {E : gp_E} {S : gp_S} {X : gp_H} {Q : Option Value → gp_H → Prop} {x1 : Int32} {x2 : Int32} (hX : Lay S X)  (hh : ((7 ≤ x2 → Q none X) ∧ (¬ 7 ≤ x2 → ((x1 = (((1 : Int32) <<< ((gI X 23 1) &&& 31)) - 1) → Q none X) ∧ (¬ x1 = (((1 : Int32) <<< ((gI X 23 1) &&& 31)) - 1) → (vp_in x1 128 ∧ (vp_in (gI X 23 6) 7 ∧ Ev E m_se_tellRow 12 [(0, .ref 23), (1, .int (x1 ||| ((1 : Int32) <<< ((gI X 30 (Int32.toNatClampNeg x1)) &&& 31)))), (2, .int (x2 + 1))] [] (gp_sI (gp_sI X 23 6 ((gI X 23 6) + 1)) 26 (Int32.toNatClampNeg (gI X 23 6)) (gI X 30 (Int32.toNatClampNeg x1))) (0, 0) Q))))))) : Ev E m_se_tellRow 12 [(0, .ref 23), (1, .int x1), (2, .int x2)] [] X (0, 0) Q := by
  refine ev_iload_n (x := x2) (pc := 12) d_se_tellRow_12 rfl ?_
  refine ev_bipush (v := 7) (pc := 13) d_se_tellRow_13 kc_b_7 ?_
  refine ev_icmp_ge (pc := 15) (tgt := 65) d_se_tellRow_15 (by decide) (fun c_1 => ?_) (fun c_1 => ?_)
  · have h_2 := hh.1 c_1
    exact ev_ret (pc := 65) ⟨Nat.le_of_ble_eq_true rfl, Nat.le_of_ble_eq_true rfl⟩ d_se_tellRow_65 rfl h_2
  · have h_3 := hh.2 c_1
    refine ev_iload_n (x := x1) (pc := 18) d_se_tellRow_18 rfl ?_
    refine ev_aload_n (x := 23) (pc := 19) d_se_tellRow_19 rfl ?_
    refine ev_callV (z := m_se_all) (as := []) (rest := [.int x1]) (pc := 20) d_se_tellRow_20 (ly_at hX 23 rfl) lt13_8 rfl l_se_97 i_se_all v_se_all o_se_all rfl rfl (Nat.le_of_ble_eq_true rfl) rfl (Nat.le_of_ble_eq_true rfl) ⟨Nat.le_of_ble_eq_true rfl, Nat.le_of_ble_eq_true rfl⟩ (s_se_all hX  ) (fun r X1 hq => ?_)
    obtain ⟨rfl, rfl⟩ := hq
    show Ev E m_se_tellRow 23 [(0, .ref 23), (1, .int x1), (2, .int x2)] [.int (((1 : Int32) <<< ((gI X 23 1) &&& 31)) - 1), .int x1] X (0, 0) Q
    refine ev_icmp_eq (pc := 23) (tgt := 65) d_se_tellRow_23 (by decide) (fun c_4 => ?_) (fun c_4 => ?_)
    · have h_5 := h_3.1 c_4
      exact ev_ret (pc := 65) ⟨Nat.le_of_ble_eq_true rfl, Nat.le_of_ble_eq_true rfl⟩ d_se_tellRow_65 rfl h_5
    · have h_6 := h_3.2 c_4
      refine ev_aload_n (x := 23) (pc := 26) d_se_tellRow_26 rfl ?_
      refine ev_getR (pc := 27) d_se_tellRow_27 f_se_18 (ly_at hX 23 rfl) gg_8 rfl (ly_rf hX 23 7 rfl) ?_
      refine ev_aload_n (x := 23) (pc := 30) d_se_tellRow_30 rfl ?_
      refine ev_dup (pc := 31) d_se_tellRow_31 rfl ?_
      refine ev_getJ (v := (gI X 23 6)) (pc := 32) d_se_tellRow_32 f_se_114 (ly_at hX 23 rfl) gg_8 rfl rfl ?_
      refine ev_dup_x1 (pc := 35) d_se_tellRow_35 rfl rfl ?_
      refine ev_iconst (v := 1) (pc := 36) d_se_tellRow_36 kc_i_1 ?_
      refine ev_iadd (pc := 37) d_se_tellRow_37 ?_
      refine ev_putI (pc := 38) d_se_tellRow_38 f_se_114 (ly_at hX 23 rfl) gg_8 rfl (Or.inl rfl) (vp_nar_int _) rfl ?_
      refine ev_aload_n (x := 23) (pc := 41) d_se_tellRow_41 rfl ?_
      refine ev_getR (pc := 42) d_se_tellRow_42 f_se_30 (ly_at (ly_sI hX) 23 rfl) gg_8 rfl (ly_rf (ly_sI hX) 23 11 rfl) ?_
      refine ev_iload_n (x := x1) (pc := 45) d_se_tellRow_45 rfl ?_
      refine ev_ialdJ (v := (gI X 30 (Int32.toNatClampNeg x1))) (pc := 46) d_se_tellRow_46 (ly_at (ly_sI hX) 30 rfl) h_6.1 rfl ?_
      refine ev_iast (pc := 47) d_se_tellRow_47 (ly_at (ly_sI hX) 26 rfl) h_6.2.1 ?_
      refine ev_iload_n (x := x1) (pc := 48) d_se_tellRow_48 rfl ?_
      refine ev_iconst (v := 1) (pc := 49) d_se_tellRow_49 kc_i_1 ?_
      refine ev_aload_n (x := 23) (pc := 50) d_se_tellRow_50 rfl ?_
      refine ev_getR (pc := 51) d_se_tellRow_51 f_se_30 (ly_at (ly_sI (ly_sI hX)) 23 rfl) gg_8 rfl (ly_rf (ly_sI (ly_sI hX)) 23 11 rfl) ?_
      refine ev_iload_n (x := x1) (pc := 54) d_se_tellRow_54 rfl ?_
      refine ev_ialdJ (v := (gI X 30 (Int32.toNatClampNeg x1))) (pc := 55) d_se_tellRow_55 (ly_at (ly_sI (ly_sI hX)) 30 rfl) h_6.1 rfl ?_
      refine ev_ishl (pc := 56) d_se_tellRow_56 ?_
      refine ev_ior (pc := 57) d_se_tellRow_57 ?_
      refine ev_istore_n (L2 := [(0, .ref 23), (1, .int (x1 ||| ((1 : Int32) <<< ((gI X 30 (Int32.toNatClampNeg x1)) &&& 31)))), (2, .int x2)]) (pc := 58) d_se_tellRow_58 rfl (Nat.le_of_ble_eq_true rfl) rfl ?_
      refine ev_iinc (v := (x2 + 1)) (L2 := [(0, .ref 23), (1, .int (x1 ||| ((1 : Int32) <<< ((gI X 30 (Int32.toNatClampNeg x1)) &&& 31)))), (2, .int (x2 + 1))]) (pc := 59) d_se_tellRow_59 rfl (by rw [kc_i_1]) rfl (Nat.le_of_ble_eq_true rfl) rfl ?_
      refine ev_goto (pc := 62) (tgt := 12) d_se_tellRow_62 (by decide) ?_
      exact h_6.2.2
theorem b_se_isPlanned_0 {E : gp_E} {S : gp_S} {X : gp_H} {Q : Option Value → gp_H → Prop} {x1 : Int32} (hX : Lay S X)  (hh : Ev E m_se_isPlanned 2 [(0, .ref 23), (1, .int x1), (2, .int 0)] [] X (0, 0) Q) : Ev E m_se_isPlanned 0 [(0, .ref 23), (1, .int x1)] [] X (0, 0) Q := by
  refine ev_iconst (v := 0) (pc := 0) d_se_isPlanned_0 kc_i_0 ?_
  refine ev_istore_n (L2 := [(0, .ref 23), (1, .int x1), (2, .int 0)]) (pc := 1) d_se_isPlanned_1 rfl (Nat.le_of_ble_eq_true rfl) rfl ?_
  exact hh
theorem b_se_isPlanned_2 {E : gp_E} {S : gp_S} {X : gp_H} {Q : Option Value → gp_H → Prop} {x1 : Int32} {x2 : Int32} (hX : Lay S X)  (hh : (((gI X 23 4) ≤ x2 → Q (some (.int 0)) X) ∧ (¬ (gI X 23 4) ≤ x2 → (vp_in x2 7 ∧ ((¬ (gI X 25 (Int32.toNatClampNeg x2)) = x1 → Ev E m_se_isPlanned 2 [(0, .ref 23), (1, .int x1), (2, .int (x2 + 1))] [] X (0, 0) Q) ∧ ((gI X 25 (Int32.toNatClampNeg x2)) = x1 → Q (some (.int 1)) X)))))) : Ev E m_se_isPlanned 2 [(0, .ref 23), (1, .int x1), (2, .int x2)] [] X (0, 0) Q := by
  refine ev_iload_n (x := x2) (pc := 2) d_se_isPlanned_2 rfl ?_
  refine ev_aload_n (x := 23) (pc := 3) d_se_isPlanned_3 rfl ?_
  refine ev_getJ (v := (gI X 23 4)) (pc := 4) d_se_isPlanned_4 f_se_56 (ly_at hX 23 rfl) gg_8 rfl rfl ?_
  refine ev_icmp_ge (pc := 7) (tgt := 28) d_se_isPlanned_7 (by decide) (fun c_1 => ?_) (fun c_1 => ?_)
  · have h_2 := hh.1 c_1
    refine ev_iconst (v := 0) (pc := 28) d_se_isPlanned_28 kc_i_0 ?_
    exact ev_iret (pc := 29) ⟨Nat.le_of_ble_eq_true rfl, Nat.le_of_ble_eq_true rfl⟩ d_se_isPlanned_29 rfl nb_0 h_2
  · have h_3 := hh.2 c_1
    refine ev_aload_n (x := 23) (pc := 10) d_se_isPlanned_10 rfl ?_
    refine ev_getR (pc := 11) d_se_isPlanned_11 f_se_15 (ly_at hX 23 rfl) gg_8 rfl (ly_rf hX 23 5 rfl) ?_
    refine ev_iload_n (x := x2) (pc := 14) d_se_isPlanned_14 rfl ?_
    refine ev_ialdJ (v := (gI X 25 (Int32.toNatClampNeg x2))) (pc := 15) d_se_isPlanned_15 (ly_at hX 25 rfl) h_3.1 rfl ?_
    refine ev_iload_n (x := x1) (pc := 16) d_se_isPlanned_16 rfl ?_
    refine ev_icmp_ne (pc := 17) (tgt := 22) d_se_isPlanned_17 (by decide) (fun c_4 => ?_) (fun c_4 => ?_)
    · have h_5 := h_3.2.1 c_4
      refine ev_iinc (v := (x2 + 1)) (L2 := [(0, .ref 23), (1, .int x1), (2, .int (x2 + 1))]) (pc := 22) d_se_isPlanned_22 rfl (by rw [kc_i_1]) rfl (Nat.le_of_ble_eq_true rfl) rfl ?_
      refine ev_goto (pc := 25) (tgt := 2) d_se_isPlanned_25 (by decide) ?_
      exact h_5
    · have h_6 := h_3.2.2 c_4
      refine ev_iconst (v := 1) (pc := 20) d_se_isPlanned_20 kc_i_1 ?_
      exact ev_iret (pc := 21) ⟨Nat.le_of_ble_eq_true rfl, Nat.le_of_ble_eq_true rfl⟩ d_se_isPlanned_21 rfl nb_1 h_6
theorem b_se_addToPlan_0 {E : gp_E} {S : gp_S} {X : gp_H} {Q : Option Value → gp_H → Prop} {x1 : Int32} (hX : Lay S X)  (hh : ((7 ≤ (gI X 23 4) → Q (some (.int (gI X 23 4))) X) ∧ (¬ 7 ≤ (gI X 23 4) → (vp_in (gI X 23 4) 7 ∧ Q (some (.int ((gI X 23 4) + 1))) (gp_sI (gp_sI X 23 4 ((gI X 23 4) + 1)) 25 (Int32.toNatClampNeg (gI X 23 4)) x1))))) : Ev E m_se_addToPlan 0 [(0, .ref 23), (1, .int x1)] [] X (0, 0) Q := by
  refine ev_aload_n (x := 23) (pc := 0) d_se_addToPlan_0 rfl ?_
  refine ev_getJ (v := (gI X 23 4)) (pc := 1) d_se_addToPlan_1 f_se_56 (ly_at hX 23 rfl) gg_8 rfl rfl ?_
  refine ev_bipush (v := 7) (pc := 4) d_se_addToPlan_4 kc_b_7 ?_
  refine ev_icmp_ge (pc := 6) (tgt := 26) d_se_addToPlan_6 (by decide) (fun c_1 => ?_) (fun c_1 => ?_)
  · have h_2 := hh.1 c_1
    refine ev_aload_n (x := 23) (pc := 26) d_se_addToPlan_26 rfl ?_
    refine ev_getJ (v := (gI X 23 4)) (pc := 27) d_se_addToPlan_27 f_se_56 (ly_at hX 23 rfl) gg_8 rfl rfl ?_
    exact ev_iret (pc := 30) ⟨Nat.le_of_ble_eq_true rfl, Nat.le_of_ble_eq_true rfl⟩ d_se_addToPlan_30 rfl (vp_nar_int _) h_2
  · have h_3 := hh.2 c_1
    refine ev_aload_n (x := 23) (pc := 9) d_se_addToPlan_9 rfl ?_
    refine ev_getR (pc := 10) d_se_addToPlan_10 f_se_15 (ly_at hX 23 rfl) gg_8 rfl (ly_rf hX 23 5 rfl) ?_
    refine ev_aload_n (x := 23) (pc := 13) d_se_addToPlan_13 rfl ?_
    refine ev_dup (pc := 14) d_se_addToPlan_14 rfl ?_
    refine ev_getJ (v := (gI X 23 4)) (pc := 15) d_se_addToPlan_15 f_se_56 (ly_at hX 23 rfl) gg_8 rfl rfl ?_
    refine ev_dup_x1 (pc := 18) d_se_addToPlan_18 rfl rfl ?_
    refine ev_iconst (v := 1) (pc := 19) d_se_addToPlan_19 kc_i_1 ?_
    refine ev_iadd (pc := 20) d_se_addToPlan_20 ?_
    refine ev_putI (pc := 21) d_se_addToPlan_21 f_se_56 (ly_at hX 23 rfl) gg_8 rfl (Or.inl rfl) (vp_nar_int _) rfl ?_
    refine ev_iload_n (x := x1) (pc := 24) d_se_addToPlan_24 rfl ?_
    refine ev_iast (pc := 25) d_se_addToPlan_25 (ly_at (ly_sI hX) 25 rfl) h_3.1 ?_
    refine ev_aload_n (x := 23) (pc := 26) d_se_addToPlan_26 rfl ?_
    refine ev_getJ (v := ((gI X 23 4) + 1)) (pc := 27) d_se_addToPlan_27 f_se_56 (ly_at (ly_sI (ly_sI hX)) 23 rfl) gg_8 rfl rfl ?_
    exact ev_iret (pc := 30) ⟨Nat.le_of_ble_eq_true rfl, Nat.le_of_ble_eq_true rfl⟩ d_se_addToPlan_30 rfl (vp_nar_int _) h_3.2
theorem b_se_setChanged_0 {E : gp_E} {S : gp_S} {X : gp_H} {Q : Option Value → gp_H → Prop} {x1 : Int32} (hX : Lay S X)  (hh : Ev E m_se_setChanged 16 [(0, .ref 23), (1, .int x1), (2, .int 0), (3, .int 0)] [] (gp_sI X 23 3 ((gI X 23 3) ||| ((1 : Int32) <<< (x1 &&& 31)))) (0, 0) Q) : Ev E m_se_setChanged 0 [(0, .ref 23), (1, .int x1)] [] X (0, 0) Q := by
  refine ev_aload_n (x := 23) (pc := 0) d_se_setChanged_0 rfl ?_
  refine ev_dup (pc := 1) d_se_setChanged_1 rfl ?_
  refine ev_getJ (v := (gI X 23 3)) (pc := 2) d_se_setChanged_2 f_se_45 (ly_at hX 23 rfl) gg_8 rfl rfl ?_
  refine ev_iconst (v := 1) (pc := 5) d_se_setChanged_5 kc_i_1 ?_
  refine ev_iload_n (x := x1) (pc := 6) d_se_setChanged_6 rfl ?_
  refine ev_ishl (pc := 7) d_se_setChanged_7 ?_
  refine ev_ior (pc := 8) d_se_setChanged_8 ?_
  refine ev_putI (pc := 9) d_se_setChanged_9 f_se_45 (ly_at hX 23 rfl) gg_8 rfl (Or.inl rfl) (vp_nar_int _) rfl ?_
  refine ev_iconst (v := 0) (pc := 12) d_se_setChanged_12 kc_i_0 ?_
  refine ev_istore_n (L2 := [(0, .ref 23), (1, .int x1), (2, .int 0)]) (pc := 13) d_se_setChanged_13 rfl (Nat.le_of_ble_eq_true rfl) rfl ?_
  refine ev_iconst (v := 0) (pc := 14) d_se_setChanged_14 kc_i_0 ?_
  refine ev_istore_n (L2 := [(0, .ref 23), (1, .int x1), (2, .int 0), (3, .int 0)]) (pc := 15) d_se_setChanged_15 rfl (Nat.le_of_ble_eq_true rfl) rfl ?_
  exact hh
theorem b_se_setChanged_16 {E : gp_E} {S : gp_S} {X : gp_H} {Q : Option Value → gp_H → Prop} {x1 : Int32} {x2 : Int32} {x3 : Int32} (hX : Lay S X)  (hh : (((gI X 23 4) ≤ x3 → Q none (gp_sI X 23 4 x2)) ∧ (¬ (gI X 23 4) ≤ x3 → (vp_in x3 7 ∧ (((gI X 25 (Int32.toNatClampNeg x3)) = x1 → Ev E m_se_setChanged 16 [(0, .ref 23), (1, .int x1), (2, .int x2), (3, .int (x3 + 1))] [] X (0, 0) Q) ∧ (¬ (gI X 25 (Int32.toNatClampNeg x3)) = x1 → (vp_in x2 7 ∧ Ev E m_se_setChanged 16 [(0, .ref 23), (1, .int x1), (2, .int (x2 + 1)), (3, .int (x3 + 1))] [] (gp_sI X 25 (Int32.toNatClampNeg x2) (gI X 25 (Int32.toNatClampNeg x3))) (0, 0) Q))))))) : Ev E m_se_setChanged 16 [(0, .ref 23), (1, .int x1), (2, .int x2), (3, .int x3)] [] X (0, 0) Q := by
  refine ev_iload_n (x := x3) (pc := 16) d_se_setChanged_16 rfl ?_
  refine ev_aload_n (x := 23) (pc := 17) d_se_setChanged_17 rfl ?_
  refine ev_getJ (v := (gI X 23 4)) (pc := 18) d_se_setChanged_18 f_se_56 (ly_at hX 23 rfl) gg_8 rfl rfl ?_
  refine ev_icmp_ge (pc := 21) (tgt := 55) d_se_setChanged_21 (by decide) (fun c_1 => ?_) (fun c_1 => ?_)
  · have h_2 := hh.1 c_1
    refine ev_aload_n (x := 23) (pc := 55) d_se_setChanged_55 rfl ?_
    refine ev_iload_n (x := x2) (pc := 56) d_se_setChanged_56 rfl ?_
    refine ev_putI (pc := 57) d_se_setChanged_57 f_se_56 (ly_at hX 23 rfl) gg_8 rfl (Or.inl rfl) (vp_nar_int _) rfl ?_
    exact ev_ret (pc := 60) ⟨Nat.le_of_ble_eq_true rfl, Nat.le_of_ble_eq_true rfl⟩ d_se_setChanged_60 rfl h_2
  · have h_3 := hh.2 c_1
    refine ev_aload_n (x := 23) (pc := 24) d_se_setChanged_24 rfl ?_
    refine ev_getR (pc := 25) d_se_setChanged_25 f_se_15 (ly_at hX 23 rfl) gg_8 rfl (ly_rf hX 23 5 rfl) ?_
    refine ev_iload_n (x := x3) (pc := 28) d_se_setChanged_28 rfl ?_
    refine ev_ialdJ (v := (gI X 25 (Int32.toNatClampNeg x3))) (pc := 29) d_se_setChanged_29 (ly_at hX 25 rfl) h_3.1 rfl ?_
    refine ev_iload_n (x := x1) (pc := 30) d_se_setChanged_30 rfl ?_
    refine ev_icmp_eq (pc := 31) (tgt := 49) d_se_setChanged_31 (by decide) (fun c_4 => ?_) (fun c_4 => ?_)
    · have h_5 := h_3.2.1 c_4
      refine ev_iinc (v := (x3 + 1)) (L2 := [(0, .ref 23), (1, .int x1), (2, .int x2), (3, .int (x3 + 1))]) (pc := 49) d_se_setChanged_49 rfl (by rw [kc_i_1]) rfl (Nat.le_of_ble_eq_true rfl) rfl ?_
      refine ev_goto (pc := 52) (tgt := 16) d_se_setChanged_52 (by decide) ?_
      exact h_5
    · have h_6 := h_3.2.2 c_4
      refine ev_aload_n (x := 23) (pc := 34) d_se_setChanged_34 rfl ?_
      refine ev_getR (pc := 35) d_se_setChanged_35 f_se_15 (ly_at hX 23 rfl) gg_8 rfl (ly_rf hX 23 5 rfl) ?_
      refine ev_iload_n (x := x2) (pc := 38) d_se_setChanged_38 rfl ?_
      refine ev_iinc (v := (x2 + 1)) (L2 := [(0, .ref 23), (1, .int x1), (2, .int (x2 + 1)), (3, .int x3)]) (pc := 39) d_se_setChanged_39 rfl (by rw [kc_i_1]) rfl (Nat.le_of_ble_eq_true rfl) rfl ?_
      refine ev_aload_n (x := 23) (pc := 42) d_se_setChanged_42 rfl ?_
      refine ev_getR (pc := 43) d_se_setChanged_43 f_se_15 (ly_at hX 23 rfl) gg_8 rfl (ly_rf hX 23 5 rfl) ?_
      refine ev_iload_n (x := x3) (pc := 46) d_se_setChanged_46 rfl ?_
      refine ev_ialdJ (v := (gI X 25 (Int32.toNatClampNeg x3))) (pc := 47) d_se_setChanged_47 (ly_at hX 25 rfl) h_3.1 rfl ?_
      refine ev_iast (pc := 48) d_se_setChanged_48 (ly_at hX 25 rfl) h_6.1 ?_
      refine ev_iinc (v := (x3 + 1)) (L2 := [(0, .ref 23), (1, .int x1), (2, .int (x2 + 1)), (3, .int (x3 + 1))]) (pc := 49) d_se_setChanged_49 rfl (by rw [kc_i_1]) rfl (Nat.le_of_ble_eq_true rfl) rfl ?_
      refine ev_goto (pc := 52) (tgt := 16) d_se_setChanged_52 (by decide) ?_
      exact h_6.2
