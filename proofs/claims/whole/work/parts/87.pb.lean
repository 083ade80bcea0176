theorem up_two {X Y : gp_H} {a b k k' : Nat} {v w : Int32} (h : ∀ i, gI X a i = gI Y b i) (hk : k = k') (hv : v = w) (i : Nat) : gI (gp_sI X a k v) a i = gI (gp_sI Y b k' w) b i := by
  subst hk; subst hv
  rw [up_row, up_row, h i]
theorem up_old {X : gp_H} {a k i : Nat} {v : Int32} (h : i ≠ k) : gI (gp_sI X a k v) a i = gI X a i := by rw [up_row, if_neg h]
theorem up_new {X : gp_H} {a k : Nat} {v : Int32} : gI (gp_sI X a k v) a k = v := by rw [up_row, if_pos rfl]
theorem bne {b : Bool} {P : Prop} (h : b = true) (h2 : b = false) : P := absurd (h.symm.trans h2) (by decide)
theorem bnf {b : Bool} {P : Prop} (h : b = false) (h2 : b = true) : P := absurd (h2.symm.trans h) (by decide)
theorem p_order {E : gp_E} {N : Nat → Nat} {S : gp_S} {X : gp_H} (h : Inv N S X) (x1 x2 x3 : Int32) : Ev E m_ga_order 0 [(0, .ref 0), (1, .int x1), (2, .int x2), (3, .int x3)] [] X (0, 0) (gp_two E m_mo_order [(0, .ref 55), (1, .int x1), (2, .int x2), (3, .int x3)]) := by
  have hL := h.lay
  obtain ⟨⟨k1, k2, k3⟩, q1, q2⟩ := h.ord
  obtain ⟨w1, w2, w3⟩ := h.wek
  have e3 : iw x3 (gI X 0 16 + 1) 200 = iw x3 (gI X 55 44 + 1) 200 := by rw [w1, w2]
  refine b_ga_order_0 hL ⟨fun c1 => ⟨fun c2 => ?_, fun c2 => ⟨fun c3 => ⟨fun c4 => ?_, fun c4 => ?_⟩, fun c3 => ?_⟩⟩, fun c1 => ?_⟩
  · exact ⟨_, S, rfl, hL, b_mo_order_0 hL ⟨fun _ => ⟨fun _ => ⟨rfl, N, h⟩, fun z => bnf c2 z⟩, fun z => bne c1 z⟩⟩
  · rw [k1] at c4 ⊢
    have hlt : N 6 < 30 := (nI_lt_lit (k := 30) rfl (by omega) (by omega)).mp c4
    rw [nI_c (by omega)]
    refine ⟨vin hlt (by omega), _, S, rfl, ly_sI (ly_sI (ly_sI (ly_sI hL))), ?_⟩
    refine b_mo_order_0 (ly_sI (ly_sI (ly_sI (ly_sI hL)))) ⟨fun _ => ⟨fun z => bne c2 z, fun _ => ⟨fun _ => ⟨fun _ => ?_, fun z => ?_⟩, fun z => bne (e3 ▸ c3) z⟩⟩, fun z => bne c1 z⟩
    · have m1 : gI (gp_sI (gp_sI (gp_sI (gp_sI X 20 (N 6) x1) 21 (N 6) x2) 22 (N 6) x3) 0 14 (nI (N 6) + 1)) 55 33 = nI (N 6) := k2
      rw [m1, nI_c (by omega)]
      obtain ⟨a, ha, ea⟩ := iw_lt (n := 4) 4 (by decide) c1
      obtain ⟨g1, g2⟩ := iw_ab c2
      obtain ⟨b, hb, eb⟩ := nI_of2 (n := 999) (M := 999) (by decide) (fun z => by have := Int32.lt_of_lt_of_le z (Int32.le_trans (by decide : (0 : Int32) ≤ 1) g1); exact absurd this (Int32.lt_irrefl)) g2
      have hb1 : 1 ≤ b := by
        rw [eb] at g1
        exact (nI_leI (a := 1) (by omega) (by omega)).mp g1
      obtain ⟨g3, g4⟩ := iw_ab c3
      rw [w1, nI_s] at g3
      obtain ⟨d, hd, ed⟩ := nI_of2 (n := 200) (M := 200) (by decide) (fun z => by have := Int32.lt_of_lt_of_le z (Int32.le_trans (nI_gee (a := N 13 + 1) (b := 0) (by omega) (by omega)) g3); exact absurd this (Int32.lt_irrefl)) g4
      refine ⟨vin hlt (by omega), ?_, fun i => if i = 6 then N 6 + 1 else N i, ?_⟩
      · rw [nI_add_sub]
      · exact ⟨h.lay, (I_net_sI (by omega) (I_net_sI (by omega) (I_net_sI (by omega) (I_net_sI (by omega) (I_net_sI (by omega) (I_net_sI (by omega) (I_net_sI (by omega) (I_net_sI (by omega) h.net)))))))), (I_wrk_sI (by omega) (I_wrk_sI (by omega) (I_wrk_sI (by omega) (I_wrk_sI (by omega) (I_wrk_sI (by omega) (I_wrk_sI (by omega) (I_wrk_sI (by omega) (I_wrk_sI (by omega) h.wrk)))))))), (I_stp_sI (by omega) (I_stp_sI (by omega) (I_stp_sI (by omega) (I_stp_sI (by omega) (I_stp_sI (by omega) (I_stp_sI (by omega) (I_stp_sI (by omega) (I_stp_sI (by omega) h.stp)))))))), (I_mod_sI (ly_sI (ly_sI (ly_sI (ly_sI (ly_sI (ly_sI (ly_sI h.lay))))))) (by omega) (by omega) (by omega) (by omega) (I_mod_sI (ly_sI (ly_sI (ly_sI (ly_sI (ly_sI (ly_sI h.lay)))))) (by omega) (by omega) (by omega) (by omega) (I_mod_sI (ly_sI (ly_sI (ly_sI (ly_sI (ly_sI h.lay))))) (by omega) (by omega) (by omega) (by omega) (I_mod_sI (ly_sI (ly_sI (ly_sI (ly_sI h.lay)))) (by omega) (by omega) (by omega) (by omega) (I_mod_sI (ly_sI (ly_sI (ly_sI h.lay))) (by omega) (by omega) (by omega) (by omega) (I_mod_sI (ly_sI (ly_sI h.lay)) (by omega) (by omega) (by omega) (by omega) (I_mod_sI (ly_sI h.lay) (by omega) (by omega) (by omega) (by omega) (I_mod_sI h.lay (by omega) (by omega) (by omega) (by omega) h.mod)))))))), (I_hom_sI (ly_sI (ly_sI (ly_sI (ly_sI (ly_sI (ly_sI (ly_sI h.lay))))))) (by omega) (by omega) (by omega) (by omega) (I_hom_sI (ly_sI (ly_sI (ly_sI (ly_sI (ly_sI (ly_sI h.lay)))))) (by omega) (by omega) (by omega) (by omega) (I_hom_sI (ly_sI (ly_sI (ly_sI (ly_sI (ly_sI h.lay))))) (by omega) (by omega) (by omega) (by omega) (I_hom_sI (ly_sI (ly_sI (ly_sI (ly_sI h.lay)))) (by omega) (by omega) (by omega) (by omega) (I_hom_sI (ly_sI (ly_sI (ly_sI h.lay))) (by omega) (by omega) (by omega) (by omega) (I_hom_sI (ly_sI (ly_sI h.lay)) (by omega) (by omega) (by omega) (by omega) (I_hom_sI (ly_sI h.lay) (by omega) (by omega) (by omega) (by omega) (I_hom_sI h.lay (by omega) (by omega) (by omega) (by omega) h.hom)))))))), (I_flt_sI (by omega) (I_flt_sI (by omega) (I_flt_sI (by omega) (I_flt_sI (by omega) (I_flt_sI (by omega) (I_flt_sI (by omega) (I_flt_sI (by omega) (I_flt_sI (by omega) h.flt)))))))), (I_sur_sI (ly_sI (ly_sI (ly_sI (ly_sI (ly_sI (ly_sI (ly_sI h.lay))))))) (by omega) (by omega) (by omega) (by omega) (I_sur_sI (ly_sI (ly_sI (ly_sI (ly_sI (ly_sI (ly_sI h.lay)))))) (by omega) (by omega) (by omega) (by omega) (I_sur_sI (ly_sI (ly_sI (ly_sI (ly_sI (ly_sI h.lay))))) (by omega) (by omega) (by omega) (by omega) (I_sur_sI (ly_sI (ly_sI (ly_sI (ly_sI h.lay)))) (by omega) (by omega) (by omega) (by omega) (I_sur_sI (ly_sI (ly_sI (ly_sI h.lay))) (by omega) (by omega) (by omega) (by omega) (I_sur_sI (ly_sI (ly_sI h.lay)) (by omega) (by omega) (by omega) (by omega) (I_sur_sI (ly_sI h.lay) (by omega) (by omega) (by omega) (by omega) (I_sur_sI h.lay (by omega) (by omega) (by omega) (by omega) h.sur)))))))), (I_stk_sI (by omega) (I_stk_sI (by omega) (I_stk_sI (by omega) (I_stk_sI (by omega) (I_stk_sI (by omega) (I_stk_sI (by omega) (I_stk_sI (by omega) (I_stk_sI (by omega) h.stk)))))))), ⟨⟨nI_s _, nI_s _, hlt⟩, fun i => ⟨up_two (fun i => (q1 i).1) rfl rfl i, up_two (fun i => (q1 i).2.1) rfl rfl i, up_two (fun i => (q1 i).2.2) rfl rfl i⟩, fun i hi => by
          have hi' : i < N 6 + 1 := hi
          by_cases z : i = N 6
          · subst z
            exact ⟨a, b, d, by omega, up_new.trans ea, hb1, hb, up_new.trans eb, hd, up_new.trans ed⟩
          · obtain ⟨a, b, d, r1, r2, r3, r4, r5, r6, r7⟩ := q2 i (by omega)
            exact ⟨a, b, d, r1, (up_old z).trans r2, r3, r4, (up_old z).trans r5, r6, (up_old z).trans r7⟩⟩, (I_sec_sI (by omega) (I_sec_sI (by omega) (I_sec_sI (by omega) (I_sec_sI (by omega) (I_sec_sI (by omega) (I_sec_sI (by omega) (I_sec_sI (by omega) (I_sec_sI (by omega) h.sec)))))))), (I_pln_sI (by omega) (I_pln_sI (by omega) (I_pln_sI (by omega) (I_pln_sI (by omega) (I_pln_sI (by omega) (I_pln_sI (by omega) (I_pln_sI (by omega) (I_pln_sI (by omega) h.pln)))))))), (I_row_sI (by omega) (I_row_sI (by omega) (I_row_sI (by omega) (I_row_sI (by omega) (I_row_sI (by omega) (I_row_sI (by omega) (I_row_sI (by omega) (I_row_sI (by omega) h.row)))))))), (I_wek_sI (by omega) (I_wek_sI (by omega) (I_wek_sI (by omega) (I_wek_sI (by omega) (I_wek_sI (by omega) (I_wek_sI (by omega) (I_wek_sI (by omega) (I_wek_sI (by omega) h.wek)))))))), (I_fit_sI (by omega) (I_fit_sI (by omega) (I_fit_sI (by omega) (I_fit_sI (by omega) (I_fit_sI (by omega) (I_fit_sI (by omega) (I_fit_sI (by omega) (I_fit_sI (by omega) h.fit)))))))), (I_sml_sI (by omega) (I_sml_sI (by omega) (I_sml_sI (by omega) (I_sml_sI (by omega) (I_sml_sI (by omega) (I_sml_sI (by omega) (I_sml_sI (by omega) (I_sml_sI (by omega) h.sml)))))))), (I_lim_sI (by omega) (I_lim_sI (by omega) (I_lim_sI (by omega) (I_lim_sI (by omega) (I_lim_sI (by omega) (I_lim_sI (by omega) (I_lim_sI (by omega) (I_lim_sI (by omega) h.lim)))))))), (I_law_sI (by omega) (I_law_sI (by omega) (I_law_sI (by omega) (I_law_sI (by omega) (I_law_sI (by omega) (I_law_sI (by omega) (I_law_sI (by omega) (I_law_sI (by omega) h.law)))))))), (I_tap_sI (by omega) (I_tap_sI (by omega) (I_tap_sI (by omega) (I_tap_sI (by omega) (I_tap_sI (by omega) (I_tap_sI (by omega) (I_tap_sI (by omega) (I_tap_sI (by omega) h.tap)))))))), (I_trc_sI (by omega) (I_trc_sI (by omega) (I_trc_sI (by omega) (I_trc_sI (by omega) (I_trc_sI (by omega) (I_trc_sI (by omega) (I_trc_sI (by omega) (I_trc_sI (by omega) h.trc)))))))), (I_she_sI (by omega) (I_she_sI (by omega) (I_she_sI (by omega) (I_she_sI (by omega) (I_she_sI (by omega) (I_she_sI (by omega) (I_she_sI (by omega) (I_she_sI (by omega) h.she)))))))), (I_txt_sI (by omega) (I_txt_sI (by omega) (I_txt_sI (by omega) (I_txt_sI (by omega) (I_txt_sI (by omega) (I_txt_sI (by omega) (I_txt_sI (by omega) (I_txt_sI (by omega) h.txt))))))))⟩
    · have z' : gI X 55 33 = 30 := z
      rw [k2] at z'
      exact absurd ((nI_eq_lit (k := 30) rfl (by omega) (by omega)).mp z') (by omega)
  · refine ⟨_, S, rfl, hL, b_mo_order_0 hL ⟨fun _ => ⟨fun z => bne c2 z, fun _ => ⟨fun _ => ⟨fun z => ?_, fun _ => ⟨rfl, N, h⟩⟩, fun z => bne (e3 ▸ c3) z⟩⟩, fun z => bne c1 z⟩⟩
    rw [k1] at c4
    rw [k2] at z
    have h1 : ¬ N 6 < 30 := fun y => c4 ((nI_lt_lit (k := 30) rfl (by omega) (by omega)).mpr y)
    exact absurd ((nI_eq_lit (n := N 6) (k := 30) rfl (by omega) (by omega)).mpr (by omega)) z
  · exact ⟨_, S, rfl, hL, b_mo_order_0 hL ⟨fun _ => ⟨fun z => bne c2 z, fun _ => ⟨fun z => bnf (e3 ▸ c3) z, fun _ => ⟨rfl, N, h⟩⟩⟩, fun z => bne c1 z⟩⟩
  · exact ⟨_, S, rfl, hL, b_mo_order_0 hL ⟨fun z => bnf c1 z, fun _ => ⟨rfl, N, h⟩⟩⟩
