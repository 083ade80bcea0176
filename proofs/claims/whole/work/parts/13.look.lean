theorem b_ne_hasKnot_0 {E : gp_E} {S : gp_S} {X : gp_H} {Q : Option Value → gp_H → Prop} {x1 : Int32} (hX : Lay S X)  (hh : Q (some (.int (bz (iw x1 0 ((gI X 1 0) - 1))))) X) : Ev E m_ne_hasKnot 0 [(0, .ref 1), (1, .int x1)] [] X (0, 0) Q := by
  refine ev_iload_n (x := x1) (pc := 0) d_ne_hasKnot_0 rfl ?_
  refine ev_iconst (v := 0) (pc := 1) d_ne_hasKnot_1 kc_i_0 ?_
  refine ev_aload_n (x := 1) (pc := 2) d_ne_hasKnot_2 rfl ?_
  refine ev_getJ (v := (gI X 1 0)) (pc := 3) d_ne_hasKnot_3 f_ne_47 (ly_at hX 1 rfl) gg_5 rfl rfl ?_
  refine ev_iconst (v := 1) (pc := 6) d_ne_hasKnot_6 kc_i_1 ?_
  refine ev_isub (pc := 7) d_ne_hasKnot_7 ?_
  refine ev_callSN (z := m_ga_isWithin) (as := [.int x1, .int 0, .int ((gI X 1 0) - 1)]) (rest := []) (pc := 8) d_ne_hasKnot_8 l_ne_50 i_ga_isWithin o_ga_isWithin rfl rfl (Nat.le_of_ble_eq_true rfl) rfl (Nat.le_of_ble_eq_true rfl) ⟨Nat.le_of_ble_eq_true rfl, Nat.le_of_ble_eq_true rfl⟩ (s_ga_isWithin hX x1 0 ((gI X 1 0) - 1)) (fun r X1 hq => ?_)
  obtain ⟨rfl, rfl⟩ := hq
  show Ev E m_ne_hasKnot 11 [(0, .ref 1), (1, .int x1)] [.int (bz (iw x1 0 ((gI X 1 0) - 1)))] X (0, 0) Q
  exact ev_iret (pc := 11) ⟨Nat.le_of_ble_eq_true rfl, Nat.le_of_ble_eq_true rfl⟩ d_ne_hasKnot_11 rfl (nb_bz _) hh
theorem s_ne_hasKnot {E : gp_E} {S : gp_S} {X : gp_H}  (hX : Lay S X) (x1 : Int32)   : Ev E m_ne_hasKnot 0 [(0, .ref 1), (1, .int x1)] [] X (0, 0) (gp_q (some (.int (bz (iw x1 0 ((gI X 1 0) - 1))))) X) := b_ne_hasKnot_0 hX  ⟨rfl, rfl⟩
theorem b_ne_hasPipe_0 {E : gp_E} {S : gp_S} {X : gp_H} {Q : Option Value → gp_H → Prop} {x1 : Int32} (hX : Lay S X)  (hh : Q (some (.int (bz (iw x1 0 ((gI X 1 1) - 1))))) X) : Ev E m_ne_hasPipe 0 [(0, .ref 1), (1, .int x1)] [] X (0, 0) Q := by
  refine ev_iload_n (x := x1) (pc := 0) d_ne_hasPipe_0 rfl ?_
  refine ev_iconst (v := 0) (pc := 1) d_ne_hasPipe_1 kc_i_0 ?_
  refine ev_aload_n (x := 1) (pc := 2) d_ne_hasPipe_2 rfl ?_
  refine ev_getJ (v := (gI X 1 1)) (pc := 3) d_ne_hasPipe_3 f_ne_54 (ly_at hX 1 rfl) gg_5 rfl rfl ?_
  refine ev_iconst (v := 1) (pc := 6) d_ne_hasPipe_6 kc_i_1 ?_
  refine ev_isub (pc := 7) d_ne_hasPipe_7 ?_
  refine ev_callSN (z := m_ga_isWithin) (as := [.int x1, .int 0, .int ((gI X 1 1) - 1)]) (rest := []) (pc := 8) d_ne_hasPipe_8 l_ne_50 i_ga_isWithin o_ga_isWithin rfl rfl (Nat.le_of_ble_eq_true rfl) rfl (Nat.le_of_ble_eq_true rfl) ⟨Nat.le_of_ble_eq_true rfl, Nat.le_of_ble_eq_true rfl⟩ (s_ga_isWithin hX x1 0 ((gI X 1 1) - 1)) (fun r X1 hq => ?_)
  obtain ⟨rfl, rfl⟩ := hq
  show Ev E m_ne_hasPipe 11 [(0, .ref 1), (1, .int x1)] [.int (bz (iw x1 0 ((gI X 1 1) - 1)))] X (0, 0) Q
  exact ev_iret (pc := 11) ⟨Nat.le_of_ble_eq_true rfl, Nat.le_of_ble_eq_true rfl⟩ d_ne_hasPipe_11 rfl (nb_bz _) hh
theorem s_ne_hasPipe {E : gp_E} {S : gp_S} {X : gp_H}  (hX : Lay S X) (x1 : Int32)   : Ev E m_ne_hasPipe 0 [(0, .ref 1), (1, .int x1)] [] X (0, 0) (gp_q (some (.int (bz (iw x1 0 ((gI X 1 1) - 1))))) X) := b_ne_hasPipe_0 hX  ⟨rfl, rfl⟩
theorem b_ne_hasWork_0 {E : gp_E} {S : gp_S} {X : gp_H} {Q : Option Value → gp_H → Prop} {x1 : Int32} (hX : Lay S X)  (hh : Q (some (.int (bz (iw x1 0 ((gI X 1 9) - 1))))) X) : Ev E m_ne_hasWork 0 [(0, .ref 1), (1, .int x1)] [] X (0, 0) Q := by
  refine ev_iload_n (x := x1) (pc := 0) d_ne_hasWork_0 rfl ?_
  refine ev_iconst (v := 0) (pc := 1) d_ne_hasWork_1 kc_i_0 ?_
  refine ev_aload_n (x := 1) (pc := 2) d_ne_hasWork_2 rfl ?_
  refine ev_getJ (v := (gI X 1 9)) (pc := 3) d_ne_hasWork_3 f_ne_57 (ly_at hX 1 rfl) gg_5 rfl rfl ?_
  refine ev_iconst (v := 1) (pc := 6) d_ne_hasWork_6 kc_i_1 ?_
  refine ev_isub (pc := 7) d_ne_hasWork_7 ?_
  refine ev_callSN (z := m_ga_isWithin) (as := [.int x1, .int 0, .int ((gI X 1 9) - 1)]) (rest := []) (pc := 8) d_ne_hasWork_8 l_ne_50 i_ga_isWithin o_ga_isWithin rfl rfl (Nat.le_of_ble_eq_true rfl) rfl (Nat.le_of_ble_eq_true rfl) ⟨Nat.le_of_ble_eq_true rfl, Nat.le_of_ble_eq_true rfl⟩ (s_ga_isWithin hX x1 0 ((gI X 1 9) - 1)) (fun r X1 hq => ?_)
  obtain ⟨rfl, rfl⟩ := hq
  show Ev E m_ne_hasWork 11 [(0, .ref 1), (1, .int x1)] [.int (bz (iw x1 0 ((gI X 1 9) - 1)))] X (0, 0) Q
  exact ev_iret (pc := 11) ⟨Nat.le_of_ble_eq_true rfl, Nat.le_of_ble_eq_true rfl⟩ d_ne_hasWork_11 rfl (nb_bz _) hh
theorem s_ne_hasWork {E : gp_E} {S : gp_S} {X : gp_H}  (hX : Lay S X) (x1 : Int32)   : Ev E m_ne_hasWork 0 [(0, .ref 1), (1, .int x1)] [] X (0, 0) (gp_q (some (.int (bz (iw x1 0 ((gI X 1 9) - 1))))) X) := b_ne_hasWork_0 hX  ⟨rfl, rfl⟩
theorem b_ne_allKnots_0 {E : gp_E} {S : gp_S} {X : gp_H} {Q : Option Value → gp_H → Prop}  (hX : Lay S X)  (hh : Q (some (.int (((1 : Int32) <<< ((gI X 1 0) &&& 31)) - 1))) X) : Ev E m_ne_allKnots 0 [(0, .ref 1)] [] X (0, 0) Q := by
  refine ev_iconst (v := 1) (pc := 0) d_ne_allKnots_0 kc_i_1 ?_
  refine ev_aload_n (x := 1) (pc := 1) d_ne_allKnots_1 rfl ?_
  refine ev_getJ (v := (gI X 1 0)) (pc := 2) d_ne_allKnots_2 f_ne_47 (ly_at hX 1 rfl) gg_5 rfl rfl ?_
  refine ev_ishl (pc := 5) d_ne_allKnots_5 ?_
  refine ev_iconst (v := 1) (pc := 6) d_ne_allKnots_6 kc_i_1 ?_
  refine ev_isub (pc := 7) d_ne_allKnots_7 ?_
  exact ev_iret (pc := 8) ⟨Nat.le_of_ble_eq_true rfl, Nat.le_of_ble_eq_true rfl⟩ d_ne_allKnots_8 rfl (vp_nar_int _) hh
theorem s_ne_allKnots {E : gp_E} {S : gp_S} {X : gp_H}  (hX : Lay S X)    : Ev E m_ne_allKnots 0 [(0, .ref 1)] [] X (0, 0) (gp_q (some (.int (((1 : Int32) <<< ((gI X 1 0) &&& 31)) - 1))) X) := b_ne_allKnots_0 hX  ⟨rfl, rfl⟩
theorem b_se_has_0 {E : gp_E} {S : gp_S} {X : gp_H} {Q : Option Value → gp_H → Prop} {x1 : Int32} (hX : Lay S X)  (hh : Q (some (.int (bz (iw x1 0 ((gI X 23 1) - 1))))) X) : Ev E m_se_has 0 [(0, .ref 23), (1, .int x1)] [] X (0, 0) Q := by
  refine ev_iload_n (x := x1) (pc := 0) d_se_has_0 rfl ?_
  refine ev_iconst (v := 0) (pc := 1) d_se_has_1 kc_i_0 ?_
  refine ev_aload_n (x := 23) (pc := 2) d_se_has_2 rfl ?_
  refine ev_getJ (v := (gI X 23 1)) (pc := 3) d_se_has_3 f_se_37 (ly_at hX 23 rfl) gg_8 rfl rfl ?_
  refine ev_iconst (v := 1) (pc := 6) d_se_has_6 kc_i_1 ?_
  refine ev_isub (pc := 7) d_se_has_7 ?_
  refine ev_callSN (z := m_ga_isWithin) (as := [.int x1, .int 0, .int ((gI X 23 1) - 1)]) (rest := []) (pc := 8) d_se_has_8 l_se_41 i_ga_isWithin o_ga_isWithin rfl rfl (Nat.le_of_ble_eq_true rfl) rfl (Nat.le_of_ble_eq_true rfl) ⟨Nat.le_of_ble_eq_true rfl, Nat.le_of_ble_eq_true rfl⟩ (s_ga_isWithin hX x1 0 ((gI X 23 1) - 1)) (fun r X1 hq => ?_)
  obtain ⟨rfl, rfl⟩ := hq
  show Ev E m_se_has 11 [(0, .ref 23), (1, .int x1)] [.int (bz (iw x1 0 ((gI X 23 1) - 1)))] X (0, 0) Q
  exact ev_iret (pc := 11) ⟨Nat.le_of_ble_eq_true rfl, Nat.le_of_ble_eq_true rfl⟩ d_se_has_11 rfl (nb_bz _) hh
theorem s_se_has {E : gp_E} {S : gp_S} {X : gp_H}  (hX : Lay S X) (x1 : Int32)   : Ev E m_se_has 0 [(0, .ref 23), (1, .int x1)] [] X (0, 0) (gp_q (some (.int (bz (iw x1 0 ((gI X 23 1) - 1))))) X) := b_se_has_0 hX  ⟨rfl, rfl⟩
theorem b_se_all_0 {E : gp_E} {S : gp_S} {X : gp_H} {Q : Option Value → gp_H → Prop}  (hX : Lay S X)  (hh : Q (some (.int (((1 : Int32) <<< ((gI X 23 1) &&& 31)) - 1))) X) : Ev E m_se_all 0 [(0, .ref 23)] [] X (0, 0) Q := by
  refine ev_iconst (v := 1) (pc := 0) d_se_all_0 kc_i_1 ?_
  refine ev_aload_n (x := 23) (pc := 1) d_se_all_1 rfl ?_
  refine ev_getJ (v := (gI X 23 1)) (pc := 2) d_se_all_2 f_se_37 (ly_at hX 23 rfl) gg_8 rfl rfl ?_
  refine ev_ishl (pc := 5) d_se_all_5 ?_
  refine ev_iconst (v := 1) (pc := 6) d_se_all_6 kc_i_1 ?_
  refine ev_isub (pc := 7) d_se_all_7 ?_
  exact ev_iret (pc := 8) ⟨Nat.le_of_ble_eq_true rfl, Nat.le_of_ble_eq_true rfl⟩ d_se_all_8 rfl (vp_nar_int _) hh
theorem s_se_all {E : gp_E} {S : gp_S} {X : gp_H}  (hX : Lay S X)    : Ev E m_se_all 0 [(0, .ref 23)] [] X (0, 0) (gp_q (some (.int (((1 : Int32) <<< ((gI X 23 1) &&& 31)) - 1))) X) := b_se_all_0 hX  ⟨rfl, rfl⟩
theorem b_se_isChanged_0 {E : gp_E} {S : gp_S} {X : gp_H} {Q : Option Value → gp_H → Prop} {x1 : Int32} (hX : Lay S X)  (hh : Q (some (.int (bz (gb (gI X 23 3) x1)))) X) : Ev E m_se_isChanged 0 [(0, .ref 23), (1, .int x1)] [] X (0, 0) Q := by
  refine ev_aload_n (x := 23) (pc := 0) d_se_isChanged_0 rfl ?_
  refine ev_getJ (v := (gI X 23 3)) (pc := 1) d_se_isChanged_1 f_se_45 (ly_at hX 23 rfl) gg_8 rfl rfl ?_
  refine ev_iload_n (x := x1) (pc := 4) d_se_isChanged_4 rfl ?_
  refine ev_callSN (z := m_ga_hasBit) (as := [.int (gI X 23 3), .int x1]) (rest := []) (pc := 5) d_se_isChanged_5 l_se_48 i_ga_hasBit o_ga_hasBit rfl rfl (Nat.le_of_ble_eq_true rfl) rfl (Nat.le_of_ble_eq_true rfl) ⟨Nat.le_of_ble_eq_true rfl, Nat.le_of_ble_eq_true rfl⟩ (s_ga_hasBit hX (gI X 23 3) x1) (fun r X1 hq => ?_)
  obtain ⟨rfl, rfl⟩ := hq
  show Ev E m_se_isChanged 8 [(0, .ref 23), (1, .int x1)] [.int (bz (gb (gI X 23 3) x1))] X (0, 0) Q
  exact ev_iret (pc := 8) ⟨Nat.le_of_ble_eq_true rfl, Nat.le_of_ble_eq_true rfl⟩ d_se_isChanged_8 rfl (nb_bz _) hh
theorem s_se_isChanged {E : gp_E} {S : gp_S} {X : gp_H}  (hX : Lay S X) (x1 : Int32)   : Ev E m_se_isChanged 0 [(0, .ref 23), (1, .int x1)] [] X (0, 0) (gp_q (some (.int (bz (gb (gI X 23 3) x1)))) X) := b_se_isChanged_0 hX  ⟨rfl, rfl⟩
theorem b_du_hasFitter_0 {E : gp_E} {S : gp_S} {X : gp_H} {Q : Option Value → gp_H → Prop} {x1 : Int32} (hX : Lay S X)  (hh : Q (some (.int (bz (iw x1 0 ((gI X 31 0) - 1))))) X) : Ev E m_du_hasFitter 0 [(0, .ref 31), (1, .int x1)] [] X (0, 0) Q := by
  refine ev_iload_n (x := x1) (pc := 0) d_du_hasFitter_0 rfl ?_
  refine ev_iconst (v := 0) (pc := 1) d_du_hasFitter_1 kc_i_0 ?_
  refine ev_aload_n (x := 31) (pc := 2) d_du_hasFitter_2 rfl ?_
  refine ev_getJ (v := (gI X 31 0)) (pc := 3) d_du_hasFitter_3 f_du_40 (ly_at hX 31 rfl) gg_0 rfl rfl ?_
  refine ev_iconst (v := 1) (pc := 6) d_du_hasFitter_6 kc_i_1 ?_
  refine ev_isub (pc := 7) d_du_hasFitter_7 ?_
  refine ev_callSN (z := m_ga_isWithin) (as := [.int x1, .int 0, .int ((gI X 31 0) - 1)]) (rest := []) (pc := 8) d_du_hasFitter_8 l_du_43 i_ga_isWithin o_ga_isWithin rfl rfl (Nat.le_of_ble_eq_true rfl) rfl (Nat.le_of_ble_eq_true rfl) ⟨Nat.le_of_ble_eq_true rfl, Nat.le_of_ble_eq_true rfl⟩ (s_ga_isWithin hX x1 0 ((gI X 31 0) - 1)) (fun r X1 hq => ?_)
  obtain ⟨rfl, rfl⟩ := hq
  show Ev E m_du_hasFitter 11 [(0, .ref 31), (1, .int x1)] [.int (bz (iw x1 0 ((gI X 31 0) - 1)))] X (0, 0) Q
  exact ev_iret (pc := 11) ⟨Nat.le_of_ble_eq_true rfl, Nat.le_of_ble_eq_true rfl⟩ d_du_hasFitter_11 rfl (nb_bz _) hh
theorem s_du_hasFitter {E : gp_E} {S : gp_S} {X : gp_H}  (hX : Lay S X) (x1 : Int32)   : Ev E m_du_hasFitter 0 [(0, .ref 31), (1, .int x1)] [] X (0, 0) (gp_q (some (.int (bz (iw x1 0 ((gI X 31 0) - 1))))) X) := b_du_hasFitter_0 hX  ⟨rfl, rfl⟩
theorem b_du_hasSmell_0 {E : gp_E} {S : gp_S} {X : gp_H} {Q : Option Value → gp_H → Prop} {x1 : Int32} (hX : Lay S X)  (hh : Q (some (.int (bz (iw x1 0 ((gI X 31 5) - 1))))) X) : Ev E m_du_hasSmell 0 [(0, .ref 31), (1, .int x1)] [] X (0, 0) Q := by
  refine ev_iload_n (x := x1) (pc := 0) d_du_hasSmell_0 rfl ?_
  refine ev_iconst (v := 0) (pc := 1) d_du_hasSmell_1 kc_i_0 ?_
  refine ev_aload_n (x := 31) (pc := 2) d_du_hasSmell_2 rfl ?_
  refine ev_getJ (v := (gI X 31 5)) (pc := 3) d_du_hasSmell_3 f_du_47 (ly_at hX 31 rfl) gg_0 rfl rfl ?_
  refine ev_iconst (v := 1) (pc := 6) d_du_hasSmell_6 kc_i_1 ?_
  refine ev_isub (pc := 7) d_du_hasSmell_7 ?_
  refine ev_callSN (z := m_ga_isWithin) (as := [.int x1, .int 0, .int ((gI X 31 5) - 1)]) (rest := []) (pc := 8) d_du_hasSmell_8 l_du_43 i_ga_isWithin o_ga_isWithin rfl rfl (Nat.le_of_ble_eq_true rfl) rfl (Nat.le_of_ble_eq_true rfl) ⟨Nat.le_of_ble_eq_true rfl, Nat.le_of_ble_eq_true rfl⟩ (s_ga_isWithin hX x1 0 ((gI X 31 5) - 1)) (fun r X1 hq => ?_)
  obtain ⟨rfl, rfl⟩ := hq
  show Ev E m_du_hasSmell 11 [(0, .ref 31), (1, .int x1)] [.int (bz (iw x1 0 ((gI X 31 5) - 1)))] X (0, 0) Q
  exact ev_iret (pc := 11) ⟨Nat.le_of_ble_eq_true rfl, Nat.le_of_ble_eq_true rfl⟩ d_du_hasSmell_11 rfl (nb_bz _) hh
theorem s_du_hasSmell {E : gp_E} {S : gp_S} {X : gp_H}  (hX : Lay S X) (x1 : Int32)   : Ev E m_du_hasSmell 0 [(0, .ref 31), (1, .int x1)] [] X (0, 0) (gp_q (some (.int (bz (iw x1 0 ((gI X 31 5) - 1))))) X) := b_du_hasSmell_0 hX  ⟨rfl, rfl⟩
theorem b_sh_has_0 {E : gp_E} {S : gp_S} {X : gp_H} {Q : Option Value → gp_H → Prop} {x1 : Int32} (hX : Lay S X)  (hh : Q (some (.int (bz (iw x1 0 2)))) X) : Ev E m_sh_has 0 [(0, .ref 48), (1, .int x1)] [] X (0, 0) Q := by
  refine ev_iload_n (x := x1) (pc := 0) d_sh_has_0 rfl ?_
  refine ev_iconst (v := 0) (pc := 1) d_sh_has_1 kc_i_0 ?_
  refine ev_iconst (v := 2) (pc := 2) d_sh_has_2 kc_i_2 ?_
  refine ev_callSN (z := m_ga_isWithin) (as := [.int x1, .int 0, .int 2]) (rest := []) (pc := 3) d_sh_has_3 l_sh_23 i_ga_isWithin o_ga_isWithin rfl rfl (Nat.le_of_ble_eq_true rfl) rfl (Nat.le_of_ble_eq_true rfl) ⟨Nat.le_of_ble_eq_true rfl, Nat.le_of_ble_eq_true rfl⟩ (s_ga_isWithin hX x1 0 2) (fun r X1 hq => ?_)
  obtain ⟨rfl, rfl⟩ := hq
  show Ev E m_sh_has 6 [(0, .ref 48), (1, .int x1)] [.int (bz (iw x1 0 2))] X (0, 0) Q
  exact ev_iret (pc := 6) ⟨Nat.le_of_ble_eq_true rfl, Nat.le_of_ble_eq_true rfl⟩ d_sh_has_6 rfl (nb_bz _) hh
theorem s_sh_has {E : gp_E} {S : gp_S} {X : gp_H}  (hX : Lay S X) (x1 : Int32)   : Ev E m_sh_has 0 [(0, .ref 48), (1, .int x1)] [] X (0, 0) (gp_q (some (.int (bz (iw x1 0 2)))) X) := b_sh_has_0 hX  ⟨rfl, rfl⟩
theorem b_sh_isMissing_0 {E : gp_E} {S : gp_S} {X : gp_H} {Q : Option Value → gp_H → Prop} {x1 : Int32} (hX : Lay S X)  (hh : (vp_in x1 3 ∧ ((¬ (gI X 49 (Int32.toNatClampNeg x1)) = (-1) → Q (some (.int 0)) X) ∧ ((gI X 49 (Int32.toNatClampNeg x1)) = (-1) → Q (some (.int 1)) X)))) : Ev E m_sh_isMissing 0 [(0, .ref 48), (1, .int x1)] [] X (0, 0) Q := by
  refine ev_aload_n (x := 48) (pc := 0) d_sh_isMissing_0 rfl ?_
  refine ev_getR (pc := 1) d_sh_isMissing_1 f_sh_11 (ly_at hX 48 rfl) gg_9 rfl (ly_rf hX 48 0 rfl) ?_
  refine ev_iload_n (x := x1) (pc := 4) d_sh_isMissing_4 rfl ?_
  refine ev_ialdJ (v := (gI X 49 (Int32.toNatClampNeg x1))) (pc := 5) d_sh_isMissing_5 (ly_at hX 49 rfl) hh.1 rfl ?_
  refine ev_iconst (v := (-1)) (pc := 6) d_sh_isMissing_6 kc_i_m1 ?_
  refine ev_icmp_ne (pc := 7) (tgt := 14) d_sh_isMissing_7 (by decide) (fun c_1 => ?_) (fun c_1 => ?_)
  · have h_2 := hh.2.1 c_1
    refine ev_iconst (v := 0) (pc := 14) d_sh_isMissing_14 kc_i_0 ?_
    exact ev_iret (pc := 15) ⟨Nat.le_of_ble_eq_true rfl, Nat.le_of_ble_eq_true rfl⟩ d_sh_isMissing_15 rfl nb_0 h_2
  · have h_3 := hh.2.2 c_1
    refine ev_iconst (v := 1) (pc := 10) d_sh_isMissing_10 kc_i_1 ?_
    refine ev_goto (pc := 11) (tgt := 15) d_sh_isMissing_11 (by decide) ?_
    exact ev_iret (pc := 15) ⟨Nat.le_of_ble_eq_true rfl, Nat.le_of_ble_eq_true rfl⟩ d_sh_isMissing_15 rfl nb_1 h_3
theorem b_sh_hasItem_0 {E : gp_E} {S : gp_S} {X : gp_H} {Q : Option Value → gp_H → Prop} {x1 : Int32} {x2 : Int32} (hX : Lay S X)  (hh : (vp_in x1 3 ∧ Q (some (.int (bz (iw x2 0 ((gI X 50 (Int32.toNatClampNeg x1)) - 1))))) X)) : Ev E m_sh_hasItem 0 [(0, .ref 48), (1, .int x1), (2, .int x2)] [] X (0, 0) Q := by
  refine ev_iload_n (x := x2) (pc := 0) d_sh_hasItem_0 rfl ?_
  refine ev_iconst (v := 0) (pc := 1) d_sh_hasItem_1 kc_i_0 ?_
  refine ev_aload_n (x := 48) (pc := 2) d_sh_hasItem_2 rfl ?_
  refine ev_getR (pc := 3) d_sh_hasItem_3 f_sh_15 (ly_at hX 48 rfl) gg_9 rfl (ly_rf hX 48 1 rfl) ?_
  refine ev_iload_n (x := x1) (pc := 6) d_sh_hasItem_6 rfl ?_
  refine ev_ialdJ (v := (gI X 50 (Int32.toNatClampNeg x1))) (pc := 7) d_sh_hasItem_7 (ly_at hX 50 rfl) hh.1 rfl ?_
  refine ev_iconst (v := 1) (pc := 8) d_sh_hasItem_8 kc_i_1 ?_
  refine ev_isub (pc := 9) d_sh_hasItem_9 ?_
  refine ev_callSN (z := m_ga_isWithin) (as := [.int x2, .int 0, .int ((gI X 50 (Int32.toNatClampNeg x1)) - 1)]) (rest := []) (pc := 10) d_sh_hasItem_10 l_sh_23 i_ga_isWithin o_ga_isWithin rfl rfl (Nat.le_of_ble_eq_true rfl) rfl (Nat.le_of_ble_eq_true rfl) ⟨Nat.le_of_ble_eq_true rfl, Nat.le_of_ble_eq_true rfl⟩ (s_ga_isWithin hX x2 0 ((gI X 50 (Int32.toNatClampNeg x1)) - 1)) (fun r X1 hq => ?_)
  obtain ⟨rfl, rfl⟩ := hq
  show Ev E m_sh_hasItem 13 [(0, .ref 48), (1, .int x1), (2, .int x2)] [.int (bz (iw x2 0 ((gI X 50 (Int32.toNatClampNeg x1)) - 1)))] X (0, 0) Q
  exact ev_iret (pc := 13) ⟨Nat.le_of_ble_eq_true rfl, Nat.le_of_ble_eq_true rfl⟩ d_sh_hasItem_13 rfl (nb_bz _) hh.2
theorem s_sh_hasItem {E : gp_E} {S : gp_S} {X : gp_H}  (hX : Lay S X) (x1 : Int32) (x2 : Int32)  (h0 : vp_in x1 3) : Ev E m_sh_hasItem 0 [(0, .ref 48), (1, .int x1), (2, .int x2)] [] X (0, 0) (gp_q (some (.int (bz (iw x2 0 ((gI X 50 (Int32.toNatClampNeg x1)) - 1))))) X) := b_sh_hasItem_0 hX  ⟨h0, rfl, rfl⟩
theorem b_ga_allModels_0 {E : gp_E} {S : gp_S} {X : gp_H} {Q : Option Value → gp_H → Prop}  (hX : Lay S X)  (hh : Q (some (.int (((1 : Int32) <<< ((gI X 0 4) &&& 31)) - 1))) X) : Ev E m_ga_allModels 0 [(0, .ref 0)] [] X (0, 0) Q := by
  refine ev_iconst (v := 1) (pc := 0) d_ga_allModels_0 kc_i_1 ?_
  refine ev_aload_n (x := 0) (pc := 1) d_ga_allModels_1 rfl ?_
  refine ev_getJ (v := (gI X 0 4)) (pc := 2) d_ga_allModels_2 f_ga_187 (ly_at hX 0 rfl) gg_11 rfl rfl ?_
  refine ev_ishl (pc := 5) d_ga_allModels_5 ?_
  refine ev_iconst (v := 1) (pc := 6) d_ga_allModels_6 kc_i_1 ?_
  refine ev_isub (pc := 7) d_ga_allModels_7 ?_
  exact ev_iret (pc := 8) ⟨Nat.le_of_ble_eq_true rfl, Nat.le_of_ble_eq_true rfl⟩ d_ga_allModels_8 rfl (vp_nar_int _) hh
theorem s_ga_allModels {E : gp_E} {S : gp_S} {X : gp_H}  (hX : Lay S X)    : Ev E m_ga_allModels 0 [(0, .ref 0)] [] X (0, 0) (gp_q (some (.int (((1 : Int32) <<< ((gI X 0 4) &&& 31)) - 1))) X) := b_ga_allModels_0 hX  ⟨rfl, rfl⟩
theorem b_mo_isKnot_0 {E : gp_E} {S : gp_S} {X : gp_H} {Q : Option Value → gp_H → Prop} {x1 : Int32} (hX : Lay S X)  (hh : Q (some (.int (bz (iw x1 0 ((gI X 55 0) - 1))))) X) : Ev E m_mo_isKnot 0 [(0, .ref 55), (1, .int x1)] [] X (0, 0) Q := by
  refine ev_iload_n (x := x1) (pc := 0) d_mo_isKnot_0 rfl ?_
  refine ev_iconst (v := 0) (pc := 1) d_mo_isKnot_1 kc_i_0 ?_
  refine ev_aload_n (x := 55) (pc := 2) d_mo_isKnot_2 rfl ?_
  refine ev_getJ (v := (gI X 55 0)) (pc := 3) d_mo_isKnot_3 f_mo_193 (ly_at hX 55 rfl) gg_12 rfl rfl ?_
  refine ev_iconst (v := 1) (pc := 6) d_mo_isKnot_6 kc_i_1 ?_
  refine ev_isub (pc := 7) d_mo_isKnot_7 ?_
  refine ev_callS (z := m_mo_in) (as := [.int x1, .int 0, .int ((gI X 55 0) - 1)]) (rest := []) (pc := 8) d_mo_isKnot_8 l_mo_196 i_mo_in o_mo_in rfl rfl (Nat.le_of_ble_eq_true rfl) rfl (Nat.le_of_ble_eq_true rfl) ⟨Nat.le_of_ble_eq_true rfl, Nat.le_of_ble_eq_true rfl⟩ (s_mo_in hX x1 0 ((gI X 55 0) - 1)) (fun r X1 hq => ?_)
  obtain ⟨rfl, rfl⟩ := hq
  show Ev E m_mo_isKnot 11 [(0, .ref 55), (1, .int x1)] [.int (bz (iw x1 0 ((gI X 55 0) - 1)))] X (0, 0) Q
  exact ev_iret (pc := 11) ⟨Nat.le_of_ble_eq_true rfl, Nat.le_of_ble_eq_true rfl⟩ d_mo_isKnot_11 rfl (nb_bz _) hh
theorem s_mo_isKnot {E : gp_E} {S : gp_S} {X : gp_H}  (hX : Lay S X) (x1 : Int32)   : Ev E m_mo_isKnot 0 [(0, .ref 55), (1, .int x1)] [] X (0, 0) (gp_q (some (.int (bz (iw x1 0 ((gI X 55 0) - 1))))) X) := b_mo_isKnot_0 hX  ⟨rfl, rfl⟩
theorem b_mo_isHome_0 {E : gp_E} {S : gp_S} {X : gp_H} {Q : Option Value → gp_H → Prop} {x1 : Int32} (hX : Lay S X)  (hh : Q (some (.int (bz (iw x1 0 ((gI X 55 19) - 1))))) X) : Ev E m_mo_isHome 0 [(0, .ref 55), (1, .int x1)] [] X (0, 0) Q := by
  refine ev_iload_n (x := x1) (pc := 0) d_mo_isHome_0 rfl ?_
  refine ev_iconst (v := 0) (pc := 1) d_mo_isHome_1 kc_i_0 ?_
  refine ev_aload_n (x := 55) (pc := 2) d_mo_isHome_2 rfl ?_
  refine ev_getJ (v := (gI X 55 19)) (pc := 3) d_mo_isHome_3 f_mo_200 (ly_at hX 55 rfl) gg_12 rfl rfl ?_
  refine ev_iconst (v := 1) (pc := 6) d_mo_isHome_6 kc_i_1 ?_
  refine ev_isub (pc := 7) d_mo_isHome_7 ?_
  refine ev_callS (z := m_mo_in) (as := [.int x1, .int 0, .int ((gI X 55 19) - 1)]) (rest := []) (pc := 8) d_mo_isHome_8 l_mo_196 i_mo_in o_mo_in rfl rfl (Nat.le_of_ble_eq_true rfl) rfl (Nat.le_of_ble_eq_true rfl) ⟨Nat.le_of_ble_eq_true rfl, Nat.le_of_ble_eq_true rfl⟩ (s_mo_in hX x1 0 ((gI X 55 19) - 1)) (fun r X1 hq => ?_)
  obtain ⟨rfl, rfl⟩ := hq
  show Ev E m_mo_isHome 11 [(0, .ref 55), (1, .int x1)] [.int (bz (iw x1 0 ((gI X 55 19) - 1)))] X (0, 0) Q
  exact ev_iret (pc := 11) ⟨Nat.le_of_ble_eq_true rfl, Nat.le_of_ble_eq_true rfl⟩ d_mo_isHome_11 rfl (nb_bz _) hh
theorem s_mo_isHome {E : gp_E} {S : gp_S} {X : gp_H}  (hX : Lay S X) (x1 : Int32)   : Ev E m_mo_isHome 0 [(0, .ref 55), (1, .int x1)] [] X (0, 0) (gp_q (some (.int (bz (iw x1 0 ((gI X 55 19) - 1))))) X) := b_mo_isHome_0 hX  ⟨rfl, rfl⟩
theorem b_mo_isModel_0 {E : gp_E} {S : gp_S} {X : gp_H} {Q : Option Value → gp_H → Prop} {x1 : Int32} (hX : Lay S X)  (hh : Q (some (.int (bz (iw x1 0 ((gI X 55 13) - 1))))) X) : Ev E m_mo_isModel 0 [(0, .ref 55), (1, .int x1)] [] X (0, 0) Q := by
  refine ev_iload_n (x := x1) (pc := 0) d_mo_isModel_0 rfl ?_
  refine ev_iconst (v := 0) (pc := 1) d_mo_isModel_1 kc_i_0 ?_
  refine ev_aload_n (x := 55) (pc := 2) d_mo_isModel_2 rfl ?_
  refine ev_getJ (v := (gI X 55 13)) (pc := 3) d_mo_isModel_3 f_mo_203 (ly_at hX 55 rfl) gg_12 rfl rfl ?_
  refine ev_iconst (v := 1) (pc := 6) d_mo_isModel_6 kc_i_1 ?_
  refine ev_isub (pc := 7) d_mo_isModel_7 ?_
  refine ev_callS (z := m_mo_in) (as := [.int x1, .int 0, .int ((gI X 55 13) - 1)]) (rest := []) (pc := 8) d_mo_isModel_8 l_mo_196 i_mo_in o_mo_in rfl rfl (Nat.le_of_ble_eq_true rfl) rfl (Nat.le_of_ble_eq_true rfl) ⟨Nat.le_of_ble_eq_true rfl, Nat.le_of_ble_eq_true rfl⟩ (s_mo_in hX x1 0 ((gI X 55 13) - 1)) (fun r X1 hq => ?_)
  obtain ⟨rfl, rfl⟩ := hq
  show Ev E m_mo_isModel 11 [(0, .ref 55), (1, .int x1)] [.int (bz (iw x1 0 ((gI X 55 13) - 1)))] X (0, 0) Q
  exact ev_iret (pc := 11) ⟨Nat.le_of_ble_eq_true rfl, Nat.le_of_ble_eq_true rfl⟩ d_mo_isModel_11 rfl (nb_bz _) hh
theorem s_mo_isModel {E : gp_E} {S : gp_S} {X : gp_H}  (hX : Lay S X) (x1 : Int32)   : Ev E m_mo_isModel 0 [(0, .ref 55), (1, .int x1)] [] X (0, 0) (gp_q (some (.int (bz (iw x1 0 ((gI X 55 13) - 1))))) X) := b_mo_isModel_0 hX  ⟨rfl, rfl⟩
theorem b_mo_isSector_0 {E : gp_E} {S : gp_S} {X : gp_H} {Q : Option Value → gp_H → Prop} {x1 : Int32} (hX : Lay S X)  (hh : Q (some (.int (bz (iw x1 0 ((gI X 55 37) - 1))))) X) : Ev E m_mo_isSector 0 [(0, .ref 55), (1, .int x1)] [] X (0, 0) Q := by
  refine ev_iload_n (x := x1) (pc := 0) d_mo_isSector_0 rfl ?_
  refine ev_iconst (v := 0) (pc := 1) d_mo_isSector_1 kc_i_0 ?_
  refine ev_aload_n (x := 55) (pc := 2) d_mo_isSector_2 rfl ?_
  refine ev_getJ (v := (gI X 55 37)) (pc := 3) d_mo_isSector_3 f_mo_206 (ly_at hX 55 rfl) gg_12 rfl rfl ?_
  refine ev_iconst (v := 1) (pc := 6) d_mo_isSector_6 kc_i_1 ?_
  refine ev_isub (pc := 7) d_mo_isSector_7 ?_
  refine ev_callS (z := m_mo_in) (as := [.int x1, .int 0, .int ((gI X 55 37) - 1)]) (rest := []) (pc := 8) d_mo_isSector_8 l_mo_196 i_mo_in o_mo_in rfl rfl (Nat.le_of_ble_eq_true rfl) rfl (Nat.le_of_ble_eq_true rfl) ⟨Nat.le_of_ble_eq_true rfl, Nat.le_of_ble_eq_true rfl⟩ (s_mo_in hX x1 0 ((gI X 55 37) - 1)) (fun r X1 hq => ?_)
  obtain ⟨rfl, rfl⟩ := hq
  show Ev E m_mo_isSector 11 [(0, .ref 55), (1, .int x1)] [.int (bz (iw x1 0 ((gI X 55 37) - 1)))] X (0, 0) Q
  exact ev_iret (pc := 11) ⟨Nat.le_of_ble_eq_true rfl, Nat.le_of_ble_eq_true rfl⟩ d_mo_isSector_11 rfl (nb_bz _) hh
theorem s_mo_isSector {E : gp_E} {S : gp_S} {X : gp_H}  (hX : Lay S X) (x1 : Int32)   : Ev E m_mo_isSector 0 [(0, .ref 55), (1, .int x1)] [] X (0, 0) (gp_q (some (.int (bz (iw x1 0 ((gI X 55 37) - 1))))) X) := b_mo_isSector_0 hX  ⟨rfl, rfl⟩
theorem b_mo_isFitter_0 {E : gp_E} {S : gp_S} {X : gp_H} {Q : Option Value → gp_H → Prop} {x1 : Int32} (hX : Lay S X)  (hh : Q (some (.int (bz (iw x1 0 ((gI X 55 45) - 1))))) X) : Ev E m_mo_isFitter 0 [(0, .ref 55), (1, .int x1)] [] X (0, 0) Q := by
  refine ev_iload_n (x := x1) (pc := 0) d_mo_isFitter_0 rfl ?_
  refine ev_iconst (v := 0) (pc := 1) d_mo_isFitter_1 kc_i_0 ?_
  refine ev_aload_n (x := 55) (pc := 2) d_mo_isFitter_2 rfl ?_
  refine ev_getJ (v := (gI X 55 45)) (pc := 3) d_mo_isFitter_3 f_mo_209 (ly_at hX 55 rfl) gg_12 rfl rfl ?_
  refine ev_iconst (v := 1) (pc := 6) d_mo_isFitter_6 kc_i_1 ?_
  refine ev_isub (pc := 7) d_mo_isFitter_7 ?_
  refine ev_callS (z := m_mo_in) (as := [.int x1, .int 0, .int ((gI X 55 45) - 1)]) (rest := []) (pc := 8) d_mo_isFitter_8 l_mo_196 i_mo_in o_mo_in rfl rfl (Nat.le_of_ble_eq_true rfl) rfl (Nat.le_of_ble_eq_true rfl) ⟨Nat.le_of_ble_eq_true rfl, Nat.le_of_ble_eq_true rfl⟩ (s_mo_in hX x1 0 ((gI X 55 45) - 1)) (fun r X1 hq => ?_)
  obtain ⟨rfl, rfl⟩ := hq
  show Ev E m_mo_isFitter 11 [(0, .ref 55), (1, .int x1)] [.int (bz (iw x1 0 ((gI X 55 45) - 1)))] X (0, 0) Q
  exact ev_iret (pc := 11) ⟨Nat.le_of_ble_eq_true rfl, Nat.le_of_ble_eq_true rfl⟩ d_mo_isFitter_11 rfl (nb_bz _) hh
theorem s_mo_isFitter {E : gp_E} {S : gp_S} {X : gp_H}  (hX : Lay S X) (x1 : Int32)   : Ev E m_mo_isFitter 0 [(0, .ref 55), (1, .int x1)] [] X (0, 0) (gp_q (some (.int (bz (iw x1 0 ((gI X 55 45) - 1))))) X) := b_mo_isFitter_0 hX  ⟨rfl, rfl⟩
theorem b_mo_all_0 {E : gp_E} {S : gp_S} {X : gp_H} {Q : Option Value → gp_H → Prop}  (hX : Lay S X)  (hh : Q (some (.int (((1 : Int32) <<< ((gI X 55 0) &&& 31)) - 1))) X) : Ev E m_mo_all 0 [(0, .ref 55)] [] X (0, 0) Q := by
  refine ev_iconst (v := 1) (pc := 0) d_mo_all_0 kc_i_1 ?_
  refine ev_aload_n (x := 55) (pc := 1) d_mo_all_1 rfl ?_
  refine ev_getJ (v := (gI X 55 0)) (pc := 2) d_mo_all_2 f_mo_193 (ly_at hX 55 rfl) gg_12 rfl rfl ?_
  refine ev_ishl (pc := 5) d_mo_all_5 ?_
  refine ev_iconst (v := 1) (pc := 6) d_mo_all_6 kc_i_1 ?_
  refine ev_isub (pc := 7) d_mo_all_7 ?_
  exact ev_iret (pc := 8) ⟨Nat.le_of_ble_eq_true rfl, Nat.le_of_ble_eq_true rfl⟩ d_mo_all_8 rfl (vp_nar_int _) hh
theorem s_mo_all {E : gp_E} {S : gp_S} {X : gp_H}  (hX : Lay S X)    : Ev E m_mo_all 0 [(0, .ref 55)] [] X (0, 0) (gp_q (some (.int (((1 : Int32) <<< ((gI X 55 0) &&& 31)) - 1))) X) := b_mo_all_0 hX  ⟨rfl, rfl⟩
theorem b_mo_isSheet_0 {E : gp_E} {S : gp_S} {X : gp_H} {Q : Option Value → gp_H → Prop} {x0 : Int32} (hX : Lay S X)  (hh : Q (some (.int (bz (iw x0 0 2)))) X) : Ev E m_mo_isSheet 0 [(0, .int x0)] [] X (0, 0) Q := by
  refine ev_iload_n (x := x0) (pc := 0) d_mo_isSheet_0 rfl ?_
  refine ev_iconst (v := 0) (pc := 1) d_mo_isSheet_1 kc_i_0 ?_
  refine ev_iconst (v := 2) (pc := 2) d_mo_isSheet_2 kc_i_2 ?_
  refine ev_callS (z := m_mo_in) (as := [.int x0, .int 0, .int 2]) (rest := []) (pc := 3) d_mo_isSheet_3 l_mo_196 i_mo_in o_mo_in rfl rfl (Nat.le_of_ble_eq_true rfl) rfl (Nat.le_of_ble_eq_true rfl) ⟨Nat.le_of_ble_eq_true rfl, Nat.le_of_ble_eq_true rfl⟩ (s_mo_in hX x0 0 2) (fun r X1 hq => ?_)
  obtain ⟨rfl, rfl⟩ := hq
  show Ev E m_mo_isSheet 6 [(0, .int x0)] [.int (bz (iw x0 0 2))] X (0, 0) Q
  exact ev_iret (pc := 6) ⟨Nat.le_of_ble_eq_true rfl, Nat.le_of_ble_eq_true rfl⟩ d_mo_isSheet_6 rfl (nb_bz _) hh
theorem s_mo_isSheet {E : gp_E} {S : gp_S} {X : gp_H}  (hX : Lay S X) (x0 : Int32)   : Ev E m_mo_isSheet 0 [(0, .int x0)] [] X (0, 0) (gp_q (some (.int (bz (iw x0 0 2)))) X) := b_mo_isSheet_0 hX  ⟨rfl, rfl⟩
theorem b_du_isTrained_0 {E : gp_E} {S : gp_S} {X : gp_H} {Q : Option Value → gp_H → Prop} {x1 : Int32} {x2 : Int32} (hX : Lay S X)  (hh : (vp_in x1 8 ∧ Q (some (.int (bz (gb (gI X 32 (Int32.toNatClampNeg x1)) x2)))) X)) : Ev E m_du_isTrained 0 [(0, .ref 31), (1, .int x1), (2, .int x2)] [] X (0, 0) Q := by
  refine ev_aload_n (x := 31) (pc := 0) d_du_isTrained_0 rfl ?_
  refine ev_getR (pc := 1) d_du_isTrained_1 f_du_9 (ly_at hX 31 rfl) gg_0 rfl (ly_rf hX 31 1 rfl) ?_
  refine ev_iload_n (x := x1) (pc := 4) d_du_isTrained_4 rfl ?_
  refine ev_ialdJ (v := (gI X 32 (Int32.toNatClampNeg x1))) (pc := 5) d_du_isTrained_5 (ly_at hX 32 rfl) hh.1 rfl ?_
  refine ev_iload_n (x := x2) (pc := 6) d_du_isTrained_6 rfl ?_
  refine ev_callSN (z := m_ga_hasBit) (as := [.int (gI X 32 (Int32.toNatClampNeg x1)), .int x2]) (rest := []) (pc := 7) d_du_isTrained_7 l_du_50 i_ga_hasBit o_ga_hasBit rfl rfl (Nat.le_of_ble_eq_true rfl) rfl (Nat.le_of_ble_eq_true rfl) ⟨Nat.le_of_ble_eq_true rfl, Nat.le_of_ble_eq_true rfl⟩ (s_ga_hasBit hX (gI X 32 (Int32.toNatClampNeg x1)) x2) (fun r X1 hq => ?_)
  obtain ⟨rfl, rfl⟩ := hq
  show Ev E m_du_isTrained 10 [(0, .ref 31), (1, .int x1), (2, .int x2)] [.int (bz (gb (gI X 32 (Int32.toNatClampNeg x1)) x2))] X (0, 0) Q
  exact ev_iret (pc := 10) ⟨Nat.le_of_ble_eq_true rfl, Nat.le_of_ble_eq_true rfl⟩ d_du_isTrained_10 rfl (nb_bz _) hh.2
theorem s_du_isTrained {E : gp_E} {S : gp_S} {X : gp_H}  (hX : Lay S X) (x1 : Int32) (x2 : Int32)  (h0 : vp_in x1 8) : Ev E m_du_isTrained 0 [(0, .ref 31), (1, .int x1), (2, .int x2)] [] X (0, 0) (gp_q (some (.int (bz (gb (gI X 32 (Int32.toNatClampNeg x1)) x2)))) X) := b_du_isTrained_0 hX  ⟨h0, rfl, rfl⟩
