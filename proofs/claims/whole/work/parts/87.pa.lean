theorem up_row {X : gp_H} {a k : Nat} {v : Int32} (i : Nat) : gI (gp_sI X a k v) a i = if i = k then v else gI X a i := by
  show (if a = a ∧ i = k then v else gI X a i) = _
  by_cases h : i = k
  · rw [if_pos ⟨rfl, h⟩, if_pos h]
  · rw [if_neg (fun q => h q.2), if_neg h]
/-- two rows that are the same stay so when the same is written in both -/
theorem up_same {X : gp_H} {a b k k' : Nat} {v w : Int32} (hab : a ≠ b) (h : ∀ i, gI X a i = gI X b i) (hk : k = k') (hv : v = w) (i : Nat) : gI (gp_sI (gp_sI X a k v) b k' w) a i = gI (gp_sI (gp_sI X a k v) b k' w) b i := by
  subst hk; subst hv
  rw [up_row, show gI (gp_sI (gp_sI X a k v) b k v) a i = gI (gp_sI X a k v) a i from (by
    show (if a = b ∧ i = k then v else _) = _
    rw [if_neg (fun q => hab q.1)]), up_row, show gI (gp_sI X a k v) b i = gI X b i from (by
    show (if b = a ∧ i = k then v else _) = _
    rw [if_neg (fun q => hab q.1.symm)]), h i]
theorem is01_0 : is01 0 := Or.inl rfl
theorem is01_1 : is01 1 := Or.inr rfl
theorem p_stock {E : gp_E} {N : Nat → Nat} {S : gp_S} {X : gp_H} (h : Inv N S X) (x1 x2 : Int32) : Ev E m_ga_stock 0 [(0, .ref 0), (1, .int x1), (2, .int x2)] [] X (0, 0) (gp_two E m_mo_stock [(0, .ref 55), (1, .int x1), (2, .int x2)]) := by
  have hL := h.lay
  have q := h.stk
  have hB : ∀ (c : iw x1 0 4 = true), ∃ k, k ≤ 4 ∧ x1 = nI k := fun c => iw_lt (n := 4) 4 (by decide) c
  refine b_ga_stock_0 hL ⟨fun c1 => ⟨fun c2 => ?_, fun c2 => ?_⟩, fun c1 => ?_⟩
  · obtain ⟨k, hk, rfl⟩ := hB c1
    have hi : vp_in (nI k) 5 := vin (by omega) (by omega)
    have hs : gI X 19 (nI k).toNatClampNeg = gI X 81 (nI k).toNatClampNeg := (q _).1
    refine ⟨hi, fun c3 => ?_, fun c3 => ?_⟩
    · refine ⟨_, S, rfl, ly_sI hL, b_mo_stock_0 (ly_sI hL) ⟨fun _ => ⟨fun z => absurd (c2.symm.trans z) (by decide), fun _ => ⟨hi, fun _ => ⟨?_, N, ?_⟩, fun z => ?_⟩⟩, fun z => absurd (c1.symm.trans z) (by decide)⟩⟩
      · show some (Value.int (gI _ 81 _)) = some (Value.int (gI _ 19 _))
        rw [up_row, up_row, if_pos rfl, if_pos rfl]
        exact congrArg (fun z => some (Value.int (z + x2))) hs.symm
      · obtain ⟨n, hn, e⟩ := iw_lt (n := 9999) 9999 (by decide) c3
        exact ⟨h.lay, (I_net_sI (by omega) (I_net_sI (by omega) h.net)), (I_wrk_sI (by omega) (I_wrk_sI (by omega) h.wrk)), (I_stp_sI (by omega) (I_stp_sI (by omega) h.stp)), (I_mod_sI (ly_sI h.lay) (by omega) (by omega) (by omega) (by omega) (I_mod_sI h.lay (by omega) (by omega) (by omega) (by omega) h.mod)), (I_hom_sI (ly_sI h.lay) (by omega) (by omega) (by omega) (by omega) (I_hom_sI h.lay (by omega) (by omega) (by omega) (by omega) h.hom)), (I_flt_sI (by omega) (I_flt_sI (by omega) h.flt)), (I_sur_sI (ly_sI h.lay) (by omega) (by omega) (by omega) (by omega) (I_sur_sI h.lay (by omega) (by omega) (by omega) (by omega) h.sur)), fun i => ⟨up_same (by decide) (fun i => (q i).1) rfl (by rw [hs]; rfl) i, by
          rw [up_row]
          by_cases z : i = (nI k).toNatClampNeg
          · rw [if_pos z]; exact ⟨n, hn, by rw [← e, hs]; rfl⟩
          · rw [if_neg z]; exact (q i).2⟩, (I_ord_sI (by omega) (I_ord_sI (by omega) h.ord)), (I_sec_sI (by omega) (I_sec_sI (by omega) h.sec)), (I_pln_sI (by omega) (I_pln_sI (by omega) h.pln)), (I_row_sI (by omega) (I_row_sI (by omega) h.row)), (I_wek_sI (by omega) (I_wek_sI (by omega) h.wek)), (I_fit_sI (by omega) (I_fit_sI (by omega) h.fit)), (I_sml_sI (by omega) (I_sml_sI (by omega) h.sml)), (I_lim_sI (by omega) (I_lim_sI (by omega) h.lim)), (I_law_sI (by omega) (I_law_sI (by omega) h.law)), (I_tap_sI (by omega) (I_tap_sI (by omega) h.tap)), (I_trc_sI (by omega) (I_trc_sI (by omega) h.trc)), (I_she_sI (by omega) (I_she_sI (by omega) h.she)), (I_txt_sI (by omega) (I_txt_sI (by omega) h.txt))⟩
      · rw [hs] at c3
        exact absurd (c3.symm.trans z) (by decide)
    · refine ⟨_, S, rfl, hL, b_mo_stock_0 hL ⟨fun _ => ⟨fun z => absurd (c2.symm.trans z) (by decide), fun _ => ⟨hi, fun z => ?_, fun _ => ⟨rfl, N, h⟩⟩⟩, fun z => absurd (c1.symm.trans z) (by decide)⟩⟩
      rw [hs] at c3
      exact absurd (c3.symm.trans z) (by decide)
  · exact ⟨_, S, rfl, hL, b_mo_stock_0 hL ⟨fun _ => ⟨fun _ => ⟨rfl, N, h⟩, fun z => absurd (c2.symm.trans z) (by decide)⟩, fun z => absurd (c1.symm.trans z) (by decide)⟩⟩
  · exact ⟨_, S, rfl, hL, b_mo_stock_0 hL ⟨fun z => absurd (c1.symm.trans z) (by decide), fun _ => ⟨rfl, N, h⟩⟩⟩
theorem p_close {E : gp_E} {N : Nat → Nat} {S : gp_S} {X : gp_H} (h : Inv N S X) (x1 : Int32) : Ev E m_ga_close 0 [(0, .ref 0), (1, .int x1)] [] X (0, 0) (gp_two E m_mo_close [(0, .ref 55), (1, .int x1)]) := by
  have hL := h.lay
  obtain ⟨⟨k1, k2, k3⟩, q1, q2, q3⟩ := h.wrk
  refine b_ga_close_0 hL ⟨fun c => ?_, fun c => ?_⟩
  · have c' : iw x1 0 (gI X 55 6 - 1) = true := by rw [k2, ← k1]; exact c
    rw [k1] at c
    obtain ⟨w, hw, rfl⟩ := iw_nI (by omega) c
    have hi : vp_in (nI w) 5 := vin (by omega) (by omega)
    have hs : gI X 11 (nI w).toNatClampNeg = gI X 63 (nI w).toNatClampNeg := (q1 _).2.2.2
    refine ⟨hi, fun c2 => ?_, fun c2 => ?_⟩
    · refine ⟨_, S, rfl, ly_sI hL, b_mo_close_0 (ly_sI hL) ⟨fun _ => ⟨hi, fun _ => ⟨rfl, N, ?_⟩, fun z => absurd (hs.trans z) c2⟩, fun z => absurd (c'.symm.trans z) (by decide)⟩⟩
      exact ⟨h.lay, (I_net_sI (by omega) (I_net_sI (by omega) h.net)), ⟨⟨k1, k2, k3⟩, fun i => ⟨(q1 i).1, (q1 i).2.1, (q1 i).2.2.1, up_same (by decide) (fun i => (q1 i).2.2.2) rfl rfl i⟩, q2, fun i => by
        rw [up_row]
        by_cases z : i = (nI w).toNatClampNeg
        · rw [if_pos z]; exact is01_0
        · rw [if_neg z]; exact q3 i⟩, (I_stp_sI (by omega) (I_stp_sI (by omega) h.stp)), (I_mod_sI (ly_sI h.lay) (by omega) (by omega) (by omega) (by omega) (I_mod_sI h.lay (by omega) (by omega) (by omega) (by omega) h.mod)), (I_hom_sI (ly_sI h.lay) (by omega) (by omega) (by omega) (by omega) (I_hom_sI h.lay (by omega) (by omega) (by omega) (by omega) h.hom)), (I_flt_sI (by omega) (I_flt_sI (by omega) h.flt)), (I_sur_sI (ly_sI h.lay) (by omega) (by omega) (by omega) (by omega) (I_sur_sI h.lay (by omega) (by omega) (by omega) (by omega) h.sur)), (I_stk_sI (by omega) (I_stk_sI (by omega) h.stk)), (I_ord_sI (by omega) (I_ord_sI (by omega) h.ord)), (I_sec_sI (by omega) (I_sec_sI (by omega) h.sec)), (I_pln_sI (by omega) (I_pln_sI (by omega) h.pln)), (I_row_sI (by omega) (I_row_sI (by omega) h.row)), (I_wek_sI (by omega) (I_wek_sI (by omega) h.wek)), (I_fit_sI (by omega) (I_fit_sI (by omega) h.fit)), (I_sml_sI (by omega) (I_sml_sI (by omega) h.sml)), (I_lim_sI (by omega) (I_lim_sI (by omega) h.lim)), (I_law_sI (by omega) (I_law_sI (by omega) h.law)), (I_tap_sI (by omega) (I_tap_sI (by omega) h.tap)), (I_trc_sI (by omega) (I_trc_sI (by omega) h.trc)), (I_she_sI (by omega) (I_she_sI (by omega) h.she)), (I_txt_sI (by omega) (I_txt_sI (by omega) h.txt))⟩
    · exact ⟨_, S, rfl, hL, b_mo_close_0 hL ⟨fun _ => ⟨hi, fun z => absurd (hs.symm.trans c2) z, fun _ => ⟨rfl, N, h⟩⟩, fun z => absurd (c'.symm.trans z) (by decide)⟩⟩
  · have c' : iw x1 0 (gI X 55 6 - 1) = false := by rw [k2, ← k1]; exact c
    exact ⟨_, S, rfl, hL, b_mo_close_0 hL ⟨fun z => absurd (c'.symm.trans z) (by decide), fun _ => ⟨rfl, N, h⟩⟩⟩
