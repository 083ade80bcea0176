theorem b_sh_cutToSort_0 {E : gp_E} {S : gp_S} {X : gp_H} {Q : Option Value → gp_H → Prop} {x1 : Int32} {x2 : Int32} (hX : Lay S X)  (hh : (vp_in x1 3 ∧ (((gI X 49 (Int32.toNatClampNeg x1)) = 0 → Q (some (.int (Int8.toInt32 (Int32.toInt8 x2)))) X) ∧ ((gI X 49 (Int32.toNatClampNeg x1)) = 1 → Q (some (.int (Int16.toInt32 (Int32.toInt16 x2)))) X) ∧ (¬ (gI X 49 (Int32.toNatClampNeg x1)) = 0 → ¬ (gI X 49 (Int32.toNatClampNeg x1)) = 1 → Q (some (.int x2)) X)))) : Ev E m_sh_cutToSort 0 [(0, .ref 48), (1, .int x1), (2, .int x2)] [] X (0, 0) Q := by
  refine ev_aload_n (x := 48) (pc := 0) d_sh_cutToSort_0 rfl ?_
  refine ev_getR (pc := 1) d_sh_cutToSort_1 f_sh_11 (ly_at hX 48 rfl) gg_9 rfl (ly_rf hX 48 0 rfl) ?_
  refine ev_iload_n (x := x1) (pc := 4) d_sh_cutToSort_4 rfl ?_
  refine ev_ialdJ (v := (gI X 49 (Int32.toNatClampNeg x1))) (pc := 5) d_sh_cutToSort_5 (ly_at hX 49 rfl) hh.1 rfl ?_
  by_cases c_2 : (gI X 49 (Int32.toNatClampNeg x1)) = 0
  · have h_1 := hh.2.1 c_2
    refine ev_lookup (pc := 6) (off := 26) (tgt := 32) d_sh_cutToSort_6 (by decide) (by rw [c_2]; decide) (by decide) ?_
    refine ev_iload_n (x := x2) (pc := 32) d_sh_cutToSort_32 rfl ?_
    refine ev_i2b (pc := 33) d_sh_cutToSort_33 ?_
    exact ev_iret (pc := 34) ⟨Nat.le_of_ble_eq_true rfl, Nat.le_of_ble_eq_true rfl⟩ d_sh_cutToSort_34 rfl (vp_nar_int _) h_1
  by_cases c_4 : (gI X 49 (Int32.toNatClampNeg x1)) = 1
  · have h_3 := hh.2.2.1 c_4
    refine ev_lookup (pc := 6) (off := 29) (tgt := 35) d_sh_cutToSort_6 (by decide) (by rw [c_4]; decide) (by decide) ?_
    refine ev_iload_n (x := x2) (pc := 35) d_sh_cutToSort_35 rfl ?_
    refine ev_i2s (pc := 36) d_sh_cutToSort_36 ?_
    exact ev_iret (pc := 37) ⟨Nat.le_of_ble_eq_true rfl, Nat.le_of_ble_eq_true rfl⟩ d_sh_cutToSort_37 rfl (vp_nar_int _) h_3
  have h_5 := hh.2.2.2 c_2 c_4
  refine ev_lookup (pc := 6) (off := 32) (tgt := 38) d_sh_cutToSort_6 (by decide) (by show Op.lookupswitch.offset [(0, 26), (1, 29)] 32 _ = _; rw [Op.lookupswitch.offset_cons, if_neg (fun z => c_2 (gp_eqi z.symm (by decide))), Op.lookupswitch.offset_cons, if_neg (fun z => c_4 (gp_eqi z.symm (by decide))), Op.lookupswitch.offset_nil]) (by decide) ?_
  refine ev_iload_n (x := x2) (pc := 38) d_sh_cutToSort_38 rfl ?_
  exact ev_iret (pc := 39) ⟨Nat.le_of_ble_eq_true rfl, Nat.le_of_ble_eq_true rfl⟩ d_sh_cutToSort_39 rfl (vp_nar_int _) h_5
theorem b_ga_sheet_0 {E : gp_E} {S : gp_S} {X : gp_H} {Q : Option Value → gp_H → Prop} {x1 : Int32} {x2 : Int32} {x3 : Int32} (hX : Lay S X)  (hh : (((iw x1 0 2) = false → Q (some (.int (-2))) X) ∧ ((iw x1 0 2) = true → (((iw x2 (-1) 2) = true → ((¬ x2 = (-1) → ((x3 ≤ 40 → ((0 ≤ x3 → (vp_in x1 3 ∧ (vp_in x1 3 ∧ ∃ r_16 : Nat, (gp_sI (gp_sI X 49 (Int32.toNatClampNeg x1) x2) 50 (Int32.toNatClampNeg x1) x3).2.2.1 51 (Int32.toNatClampNeg x1) = some r_16 ∧ gp_at X r_16 (13, 40) ∧ (∃ Qz_21, Ev E m_ar_fill 0 [(0, .ref r_16), (1, .int 0)] [] (gp_sI (gp_sI X 49 (Int32.toNatClampNeg x1) x2) 50 (Int32.toNatClampNeg x1) x3) (0, 0) Qz_21 ∧ ∀ r X_24, Qz_21 r X_24 → (r = none ∧ Lay S X_24 ∧ Q (some (.int 1)) X_24))))) ∧ (¬ 0 ≤ x3 → Q (some (.int (-14))) X))) ∧ (¬ x3 ≤ 40 → Q (some (.int (-2))) X))) ∧ (x2 = (-1) → (vp_in x1 3 ∧ Q (some (.int 1)) (gp_sI X 49 (Int32.toNatClampNeg x1) x2))))) ∧ ((iw x2 (-1) 2) = false → Q (some (.int (-2))) X))))) : Ev E m_ga_sheet 0 [(0, .ref 0), (1, .int x1), (2, .int x2), (3, .int x3)] [] X (0, 0) Q := by
  refine ev_aload_n (x := 0) (pc := 0) d_ga_sheet_0 rfl ?_
  refine ev_getR (pc := 1) d_ga_sheet_1 f_ga_83 (ly_at hX 0 rfl) gg_11 rfl (ly_rf hX 0 19 rfl) ?_
  refine ev_iload_n (x := x1) (pc := 4) d_ga_sheet_4 rfl ?_
  refine ev_callV (z := m_sh_has) (as := [.int x1]) (rest := []) (pc := 5) d_ga_sheet_5 (ly_at hX 48 rfl) lt13_9 rfl l_ga_212 i_sh_has v_sh_has o_sh_has rfl rfl (Nat.le_of_ble_eq_true rfl) rfl (Nat.le_of_ble_eq_true rfl) ⟨Nat.le_of_ble_eq_true rfl, Nat.le_of_ble_eq_true rfl⟩ (s_sh_has hX x1 ) (fun r X1 hq => ?_)
  obtain ⟨rfl, rfl⟩ := hq
  show Ev E m_ga_sheet 8 [(0, .ref 0), (1, .int x1), (2, .int x2), (3, .int x3)] [.int (bz (iw x1 0 2))] X (0, 0) Q
  refine ev_ifz_eq (pc := 8) (tgt := 20) d_ga_sheet_8 (by decide) (fun c_1 => ?_) (fun c_1 => ?_)
  · have h_2 := hh.1 c_1
    refine ev_bipush (v := (-2)) (pc := 20) d_ga_sheet_20 kc_b_m2 ?_
    exact ev_iret (pc := 22) ⟨Nat.le_of_ble_eq_true rfl, Nat.le_of_ble_eq_true rfl⟩ d_ga_sheet_22 rfl (vp_nar_int _) h_2
  · have h_3 := hh.2 c_1
    refine ev_iload_n (x := x2) (pc := 11) d_ga_sheet_11 rfl ?_
    refine ev_iconst (v := (-1)) (pc := 12) d_ga_sheet_12 kc_i_m1 ?_
    refine ev_iconst (v := 2) (pc := 13) d_ga_sheet_13 kc_i_2 ?_
    refine ev_callS (z := m_ga_isWithin) (as := [.int x2, .int (-1), .int 2]) (rest := []) (pc := 14) d_ga_sheet_14 l_ga_128 i_ga_isWithin o_ga_isWithin rfl rfl (Nat.le_of_ble_eq_true rfl) rfl (Nat.le_of_ble_eq_true rfl) ⟨Nat.le_of_ble_eq_true rfl, Nat.le_of_ble_eq_true rfl⟩ (s_ga_isWithin hX x2 (-1) 2) (fun r X1 hq => ?_)
    obtain ⟨rfl, rfl⟩ := hq
    show Ev E m_ga_sheet 17 [(0, .ref 0), (1, .int x1), (2, .int x2), (3, .int x3)] [.int (bz (iw x2 (-1) 2))] X (0, 0) Q
    refine ev_ifz_ne (pc := 17) (tgt := 23) d_ga_sheet_17 (by decide) (fun c_4 => ?_) (fun c_4 => ?_)
    · have h_5 := h_3.1 c_4
      refine ev_iload_n (x := x2) (pc := 23) d_ga_sheet_23 rfl ?_
      refine ev_iconst (v := (-1)) (pc := 24) d_ga_sheet_24 kc_i_m1 ?_
      refine ev_icmp_ne (pc := 25) (tgt := 40) d_ga_sheet_25 (by decide) (fun c_7 => ?_) (fun c_7 => ?_)
      · have h_8 := h_5.1 c_7
        refine ev_iload_n (x := x3) (pc := 40) d_ga_sheet_40 rfl ?_
        refine ev_bipush (v := 40) (pc := 41) d_ga_sheet_41 kc_b_40 ?_
        refine ev_icmp_le (pc := 43) (tgt := 49) d_ga_sheet_43 (by decide) (fun c_10 => ?_) (fun c_10 => ?_)
        · have h_11 := h_8.1 c_10
          refine ev_iload_n (x := x3) (pc := 49) d_ga_sheet_49 rfl ?_
          refine ev_if_ge (pc := 50) (tgt := 56) d_ga_sheet_50 (by decide) (fun c_13 => ?_) (fun c_13 => ?_)
          · have h_14 := h_11.1 c_13
            refine ev_aload_n (x := 0) (pc := 56) d_ga_sheet_56 rfl ?_
            refine ev_getR (pc := 57) d_ga_sheet_57 f_ga_83 (ly_at hX 0 rfl) gg_11 rfl (ly_rf hX 0 19 rfl) ?_
            refine ev_getR (pc := 60) d_ga_sheet_60 f_ga_218 (ly_at hX 48 rfl) gg_9 rfl (ly_rf hX 48 0 rfl) ?_
            refine ev_iload_n (x := x1) (pc := 63) d_ga_sheet_63 rfl ?_
            refine ev_iload_n (x := x2) (pc := 64) d_ga_sheet_64 rfl ?_
            refine ev_iast (pc := 65) d_ga_sheet_65 (ly_at hX 49 rfl) h_14.1 ?_
            refine ev_aload_n (x := 0) (pc := 66) d_ga_sheet_66 rfl ?_
            refine ev_getR (pc := 67) d_ga_sheet_67 f_ga_83 (ly_at (ly_sI hX) 0 rfl) gg_11 rfl (ly_rf (ly_sI hX) 0 19 rfl) ?_
            refine ev_getR (pc := 70) d_ga_sheet_70 f_ga_461 (ly_at (ly_sI hX) 48 rfl) gg_9 rfl (ly_rf (ly_sI hX) 48 1 rfl) ?_
            refine ev_iload_n (x := x1) (pc := 73) d_ga_sheet_73 rfl ?_
            refine ev_iload_n (x := x3) (pc := 74) d_ga_sheet_74 rfl ?_
            refine ev_iast (pc := 75) d_ga_sheet_75 (ly_at (ly_sI hX) 50 rfl) h_14.1 ?_
            refine ev_aload_n (x := 0) (pc := 76) d_ga_sheet_76 rfl ?_
            refine ev_getR (pc := 77) d_ga_sheet_77 f_ga_83 (ly_at (ly_sI (ly_sI hX)) 0 rfl) gg_11 rfl (ly_rf (ly_sI (ly_sI hX)) 0 19 rfl) ?_
            refine ev_getR (pc := 80) d_ga_sheet_80 f_ga_225 (ly_at (ly_sI (ly_sI hX)) 48 rfl) gg_9 rfl (ly_rf (ly_sI (ly_sI hX)) 48 2 rfl) ?_
            refine ev_iload_n (x := x1) (pc := 83) d_ga_sheet_83 rfl ?_
            obtain ⟨hv_19, r_16, hq_18, hb_17, h_20⟩ := h_14.2
            refine ev_ald5 (pc := 84) d_ga_sheet_84 (ly_at (ly_sI (ly_sI hX)) 51 rfl) hv_19 hq_18 ?_
            refine ev_iconst (v := 0) (pc := 85) d_ga_sheet_85 kc_i_0 ?_
            obtain ⟨Qz_21, hc_22, hk_23⟩ := h_20
            refine ev_callS (z := m_ar_fill) (as := [.ref r_16, .int 0]) (rest := []) (pc := 86) d_ga_sheet_86 l_ga_464 i_ar_fill o_ar_fill rfl rfl (Nat.le_of_ble_eq_true rfl) rfl (Nat.le_of_ble_eq_true rfl) ⟨Nat.le_of_ble_eq_true rfl, Nat.le_of_ble_eq_true rfl⟩ hc_22 (fun r_25 X_24 hq_26 => ?_)
            obtain ⟨rfl, hX_28, h_27⟩ := hk_23 _ _ hq_26
            show Ev E m_ga_sheet 89 [(0, .ref 0), (1, .int x1), (2, .int x2), (3, .int x3)] [] X_24 (0, 0) Q
            refine ev_iconst (v := 1) (pc := 89) d_ga_sheet_89 kc_i_1 ?_
            exact ev_iret (pc := 90) ⟨Nat.le_of_ble_eq_true rfl, Nat.le_of_ble_eq_true rfl⟩ d_ga_sheet_90 rfl (vp_nar_int _) h_27
          · have h_15 := h_11.2 c_13
            refine ev_bipush (v := (-14)) (pc := 53) d_ga_sheet_53 kc_b_m14 ?_
            exact ev_iret (pc := 55) ⟨Nat.le_of_ble_eq_true rfl, Nat.le_of_ble_eq_true rfl⟩ d_ga_sheet_55 rfl (vp_nar_int _) h_15
        · have h_12 := h_8.2 c_10
          refine ev_bipush (v := (-2)) (pc := 46) d_ga_sheet_46 kc_b_m2 ?_
          exact ev_iret (pc := 48) ⟨Nat.le_of_ble_eq_true rfl, Nat.le_of_ble_eq_true rfl⟩ d_ga_sheet_48 rfl (vp_nar_int _) h_12
      · have h_9 := h_5.2 c_7
        refine ev_aload_n (x := 0) (pc := 28) d_ga_sheet_28 rfl ?_
        refine ev_getR (pc := 29) d_ga_sheet_29 f_ga_83 (ly_at hX 0 rfl) gg_11 rfl (ly_rf hX 0 19 rfl) ?_
        refine ev_getR (pc := 32) d_ga_sheet_32 f_ga_218 (ly_at hX 48 rfl) gg_9 rfl (ly_rf hX 48 0 rfl) ?_
        refine ev_iload_n (x := x1) (pc := 35) d_ga_sheet_35 rfl ?_
        refine ev_iload_n (x := x2) (pc := 36) d_ga_sheet_36 rfl ?_
        refine ev_iast (pc := 37) d_ga_sheet_37 (ly_at hX 49 rfl) h_9.1 ?_
        refine ev_iconst (v := 1) (pc := 38) d_ga_sheet_38 kc_i_1 ?_
        exact ev_iret (pc := 39) ⟨Nat.le_of_ble_eq_true rfl, Nat.le_of_ble_eq_true rfl⟩ d_ga_sheet_39 rfl (vp_nar_int _) h_9.2
    · have h_6 := h_3.2 c_4
      refine ev_bipush (v := (-2)) (pc := 20) d_ga_sheet_20 kc_b_m2 ?_
      exact ev_iret (pc := 22) ⟨Nat.le_of_ble_eq_true rfl, Nat.le_of_ble_eq_true rfl⟩ d_ga_sheet_22 rfl (vp_nar_int _) h_6
