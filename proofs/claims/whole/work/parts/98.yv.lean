theorem y_cs : Cond.fieldLink "java/lang/String" (38 : Nat) "java/lang/String" "COMPACT_STRINGS" "Z" ∈ lw_g := lw_g_of (lw_t5 (List.mem_of_getElem? (i := 21) (by decide +kernel))) rfl
theorem y_fm : Cond.fieldLink "java/lang/String" (1053 : Nat) "jdk/internal/util/Preconditions" "SIOOBE_FORMATTER" "Ljava/util/function/BiFunction;" ∈ lw_g := lw_g_of (lw_t5 (List.mem_of_getElem? (i := 37) (by decide +kernel))) rfl
theorem y_val : Cond.fieldLink "java/lang/String" (9 : Nat) "java/lang/String" "value" "[B" ∈ lw_g := lw_g_of (lw_t8 (List.mem_of_getElem? (i := 97) (by decide +kernel))) rfl
theorem y_cod : Cond.fieldLink "java/lang/String" (15 : Nat) "java/lang/String" "coder" "B" ∈ lw_g := lw_g_of (lw_t8 (List.mem_of_getElem? (i := 98) (by decide +kernel))) rfl
section STR
variable {E : gp_E} {y z : gp_M} {pc idx n : Nat} {L : List (Nat × Value)} {st as rest : List Value} {X : gp_H} {u : Nat × Nat} {Q Qz : Option Value → gp_H → Prop}
/-- a method of a text -/
theorem ev_callVS {f : UInt32} {i : Nat} (hi : i < 2) (hf : f.toNat = 2 * i) (hd : decode y.2.1 pc = .ok (.invokevirtual idx, 3)) (hC : z.1.cls = "java/lang/String") (hw : Cond.methodLink y.1.cls idx z.1 ∈ lw_g) (hs : Cond.instanceMethod z.1 ∈ lw_g) (hsel : Cond.selects z.1.cls z.1 z.1 ∈ lw_g) (hm : gp_mo z n) (hR : gp_rm y z = true) (hn : as.length = n) (hl0 : (lg_sl (.float f :: as)).length ≤ z.2.2.1) (hst : st = as.reverse ++ .float f :: rest) (hrest : (rest.map fun v => v.category).sum ≤ 8) (hu : u.1 + z.2.2.2.2.cells ≤ y.2.2.2.2.cells ∧ u.2 + z.2.2.2.2.slots ≤ y.2.2.2.2.slots)
    (hc : Ev E z 0 (lv_args 0 (.float f :: as)) [] X (0, 0) Qz) (kk : ∀ r X', Qz r X' → Ev E y (pc + 3) L (r.toList ++ rest) X' (u.1 + z.2.2.2.2.cells, u.2 + z.2.2.2.2.slots) Q) : Ev E y pc L st X u Q := by
  subst hst
  intro G p e s m args below meth c H locs ls Z hG hF hH hl
  have hts := hG.2.2.2.2.2.1
  have cw := cwV (own := y.1.cls) (index := idx) (C := z.1.cls) (R := y.2.2.2.2) (ws := gp_ws z) n hts (lw_g_in (fun w h => by
    unfold wsV at h
    rcases List.mem_append.mp h with h | h
    · simp only [List.mem_cons, List.not_mem_nil, or_false] at h
      rcases h with rfl | rfl | rfl | rfl
      · exact hw
      · exact hs
      · exact hsel
      · exact hm.2.2.2.2
    · exact gp_ws_in hm w h)) rfl rfl rfl ⟨rfl, hm.2.2.1.1, hm.2.2.1.2, hm.1⟩ (gp_rm_of hR)
  have hp := gp_pre hG hH (.float f :: as)
  have hrv : ∃ cell : Cell, H[G.2.2.2.2 f.toNat]? = some cell ∧ cell.vm.isStatics = false ∧ s.vm.findClass "java/lang/String" = some cell.cls := by
    rw [hf]
    exact vk_recv (adK := fun i => G.2.2.2.2 (2 * i)) hG.2.2.2.2.2.2.2.2.2.2.2.1 hi hH.2.2
  exact gp_go (va_runV (As := as.map (gp_v G)) (b := G.2.2.2.2 f.toNat) (rest := rest.map (gp_v G)) ⟨hG.1, hG.2.1, hG.2.2.1, hG.2.2.2.2.1, hts⟩ (gp_met G (.float f :: as) hc hl0 hm.2.1) cw ⟨hp.1, by rw [hC]; exact hrv, hp.2⟩ rfl (by rw [List.length_map]; exact hn) hl.1 (by rw [List.map_append, List.map_reverse]; rfl) (gp_rest G hrest) hd hu) hH (fun r X' H1 locs1 hq hH1 => kk r X' hq G p e s m args below meth c H1 locs1 ls Z hG hF hH1 hl)
end STR
section STM
variable {E : gp_E} {X : gp_H}
theorem s_pr_checkIndex {a b : Int32} {v : Value} (h0 : ¬ a < 0) (h1 : a < b) : Ev E m_pr_checkIndex 0 [(0, .int a), (1, .int b), (2, v)] [] X (0, 0) (gp_q (some (.int a)) X) := by
  refine ev_iload_n (x := a) (pc := 0) d_pr_checkIndex_0 rfl ?_
  refine ev_if_lt (pc := 1) (tgt := 9) d_pr_checkIndex_1 (by decide) (fun c => absurd c h0) (fun _ => ?_)
  refine ev_iload_n (x := a) (pc := 4) d_pr_checkIndex_4 rfl ?_
  refine ev_iload_n (x := b) (pc := 5) d_pr_checkIndex_5 rfl ?_
  refine ev_icmp_lt (pc := 6) (tgt := 16) d_pr_checkIndex_6 (by decide) (fun _ => ?_) (fun c => absurd h1 c)
  refine ev_iload_n (x := a) (pc := 16) d_pr_checkIndex_16 rfl ?_
  exact ev_iret (pc := 17) ⟨Nat.le_of_ble_eq_true rfl, Nat.le_of_ble_eq_true rfl⟩ d_pr_checkIndex_17 rfl (vp_nar_int _) ⟨rfl, rfl⟩
theorem s_st_checkIndex {a b : Int32} (h0 : ¬ a < 0) (h1 : a < b) : Ev E m_st_checkIndex 0 [(0, .int a), (1, .int b)] [] X (0, 0) (gp_q none X) := by
  refine ev_iload_n (x := a) (pc := 0) d_st_checkIndex_0 rfl ?_
  refine ev_iload_n (x := b) (pc := 1) d_st_checkIndex_1 rfl ?_
  refine ev_getsF (pc := 2) d_st_checkIndex_2 y_fm (fun r X' hq => hq.1.symm) (fun v hv => ?_)
  have kk : ∀ r X', gp_q (some (.int a)) X r X' → Ev E m_st_checkIndex 8 [(0, .int a), (1, .int b)] (r.toList ++ []) X' (0, 0) (gp_q none X) := fun r X' hq => by
    obtain ⟨rfl, rfl⟩ := hq
    refine ev_pop (pc := 8) d_st_checkIndex_8 rfl ?_
    exact ev_ret (pc := 9) ⟨Nat.le_of_ble_eq_true rfl, Nat.le_of_ble_eq_true rfl⟩ d_st_checkIndex_9 rfl ⟨rfl, rfl⟩
  rcases hv with rfl | rfl
  · exact ev_callS (z := m_pr_checkIndex) (as := [.int a, .int b, .null]) (rest := []) (pc := 5) d_st_checkIndex_5 l_st_1059 i_pr_checkIndex o_pr_checkIndex rfl rfl (Nat.le_of_ble_eq_true rfl) rfl (Nat.le_of_ble_eq_true rfl) ⟨Nat.le_of_ble_eq_true rfl, Nat.le_of_ble_eq_true rfl⟩ (s_pr_checkIndex h0 h1) kk
  · exact ev_callS (z := m_pr_checkIndex) (as := [.int a, .int b, .float 50]) (rest := []) (pc := 5) d_st_checkIndex_5 l_st_1059 i_pr_checkIndex o_pr_checkIndex rfl rfl (Nat.le_of_ble_eq_true rfl) rfl (Nat.le_of_ble_eq_true rfl) ⟨Nat.le_of_ble_eq_true rfl, Nat.le_of_ble_eq_true rfl⟩ (s_pr_checkIndex h0 h1) kk
theorem s_coder0 : Ev E m_st_coder 0 [(0, .float 0)] [] X (0, 0) (gp_q (some (.int 0)) X) := by
  refine ev_gets (pc := 0) d_st_coder_0 y_cs ?_
  refine ev_if_eq (pc := 3) (tgt := 13) d_st_coder_3 (by decide) (fun c => absurd c (by decide)) (fun _ => ?_)
  refine ev_aload_nS (x := 0) (pc := 6) d_st_coder_6 rfl ?_
  refine ev_sgetC (i := 0) (by decide) (by decide) (pc := 7) d_st_coder_7 y_cod ?_
  refine ev_goto (pc := 10) (tgt := 14) d_st_coder_10 (by decide) ?_
  exact ev_iret (pc := 14) ⟨Nat.le_of_ble_eq_true rfl, Nat.le_of_ble_eq_true rfl⟩ d_st_coder_14 rfl (by decide) ⟨rfl, rfl⟩
theorem s_latin0 : Ev E m_st_isLatin1 0 [(0, .float 0)] [] X (0, 0) (gp_q (some (.int 1)) X) := by
  refine ev_gets (pc := 0) d_st_isLatin1_0 y_cs ?_
  refine ev_if_eq (pc := 3) (tgt := 17) d_st_isLatin1_3 (by decide) (fun c => absurd c (by decide)) (fun _ => ?_)
  refine ev_aload_nS (x := 0) (pc := 6) d_st_isLatin1_6 rfl ?_
  refine ev_sgetC (i := 0) (by decide) (by decide) (pc := 7) d_st_isLatin1_7 y_cod ?_
  refine ev_if_ne (pc := 10) (tgt := 17) d_st_isLatin1_10 (by decide) (fun c => absurd rfl c) (fun _ => ?_)
  refine ev_iconst (v := 1) (pc := 13) d_st_isLatin1_13 kc_i_1 ?_
  refine ev_goto (pc := 14) (tgt := 18) d_st_isLatin1_14 (by decide) ?_
  exact ev_iret (pc := 18) ⟨Nat.le_of_ble_eq_true rfl, Nat.le_of_ble_eq_true rfl⟩ d_st_isLatin1_18 rfl nb_1 ⟨rfl, rfl⟩
theorem s_length0 : Ev E m_st_length 0 [(0, .float 0)] [] X (0, 0) (gp_q (some (.int 24)) X) := by
  refine ev_aload_nS (x := 0) (pc := 0) d_st_length_0 rfl ?_
  refine ev_sgetV (g := 1) (i := 0) (by decide) (by decide) (by decide) (pc := 1) d_st_length_1 y_val ?_
  refine ev_slen (v := 24) (i := 0) (by decide) (by decide) (by decide) (pc := 4) d_st_length_4 ?_
  refine ev_aload_nS (x := 0) (pc := 5) d_st_length_5 rfl ?_
  refine ev_callVS (i := 0) (by decide) (by decide) (z := m_st_coder) (as := []) (rest := [.int 24]) (pc := 6) d_st_length_6 rfl l_st_335 i_st_coder v_st_coder o_st_coder rfl rfl (Nat.le_of_ble_eq_true rfl) rfl (Nat.le_of_ble_eq_true rfl) ⟨Nat.le_of_ble_eq_true rfl, Nat.le_of_ble_eq_true rfl⟩ s_coder0 (fun r X' hq => ?_)
  obtain ⟨rfl, rfl⟩ := hq
  refine ev_ishr (pc := 9) d_st_length_9 ?_
  exact ev_iret (pc := 10) ⟨Nat.le_of_ble_eq_true rfl, Nat.le_of_ble_eq_true rfl⟩ d_st_length_10 rfl (vp_nar_int _) ⟨by decide, rfl⟩
theorem byt0 : ∀ k, k < 24 → (((((gp_byt.getD 0 []).getD k 0) &&& 255).toUInt32 % 65536).toInt32 = (gp_byt.getD 0 []).getD k 0 ∧ narrow .char (.int ((gp_byt.getD 0 []).getD k 0)) = .int ((gp_byt.getD 0 []).getD k 0)) := by decide +kernel
theorem s_slchar0 {k : Nat} (hk : k < 24) : Ev E m_sl_charAt 0 [(0, .float 1), (1, .int (nI k))] [] X (0, 0) (gp_q (some (.int ((gp_byt.getD 0 []).getD k 0))) X) := by
  refine ev_iload_n (x := nI k) (pc := 0) d_sl_charAt_0 rfl ?_
  refine ev_aload_nS (x := 1) (pc := 1) d_sl_charAt_1 rfl ?_
  refine ev_slen (v := nI 24) (i := 0) (by decide) (by decide) (by decide) (pc := 2) d_sl_charAt_2 ?_
  refine ev_callS (z := m_st_checkIndex) (as := [.int (nI k), .int (nI 24)]) (rest := []) (pc := 3) d_sl_charAt_3 l_sl_9 i_st_checkIndex o_st_checkIndex rfl rfl (Nat.le_of_ble_eq_true rfl) rfl (Nat.le_of_ble_eq_true rfl) ⟨Nat.le_of_ble_eq_true rfl, Nat.le_of_ble_eq_true rfl⟩ (s_st_checkIndex (by rw [show (0 : Int32) = nI 0 from rfl, nI_ltI (by omega) (by omega)]; omega) (nI_ltt hk (by omega))) (fun r X' hq => ?_)
  obtain ⟨rfl, rfl⟩ := hq
  refine ev_aload_nS (x := 1) (pc := 6) d_sl_charAt_6 rfl ?_
  refine ev_iload_n (x := nI k) (pc := 7) d_sl_charAt_7 rfl ?_
  refine ev_sbald (v := (gp_byt.getD 0 []).getD k 0) (i := 0) (by decide) (by decide) (vin hk (by decide)) (by rw [nI_c (by omega)]) (pc := 8) d_sl_charAt_8 ?_
  refine ev_sipush (v := 255) (pc := 9) d_sl_charAt_9 (by decide) ?_
  refine ev_iand (pc := 12) d_sl_charAt_12 ?_
  refine ev_i2c (pc := 13) d_sl_charAt_13 (byt0 k hk).1 ?_
  exact ev_iret (pc := 14) ⟨Nat.le_of_ble_eq_true rfl, Nat.le_of_ble_eq_true rfl⟩ d_sl_charAt_14 rfl (byt0 k hk).2 ⟨rfl, rfl⟩
theorem s_char0 {k : Nat} (hk : k < 24) : Ev E m_st_charAt 0 [(0, .float 0), (1, .int (nI k))] [] X (0, 0) (gp_q (some (.int ((gp_byt.getD 0 []).getD k 0))) X) := by
  refine ev_aload_nS (x := 0) (pc := 0) d_st_charAt_0 rfl ?_
  refine ev_callVS (i := 0) (by decide) (by decide) (z := m_st_isLatin1) (as := []) (rest := []) (pc := 1) d_st_charAt_1 rfl l_st_492 i_st_isLatin1 v_st_isLatin1 o_st_isLatin1 rfl rfl (Nat.le_of_ble_eq_true rfl) rfl (Nat.le_of_ble_eq_true rfl) ⟨Nat.le_of_ble_eq_true rfl, Nat.le_of_ble_eq_true rfl⟩ s_latin0 (fun r X' hq => ?_)
  obtain ⟨rfl, rfl⟩ := hq
  refine ev_if_eq (pc := 4) (tgt := 16) d_st_charAt_4 (by decide) (fun c => absurd c (by decide)) (fun _ => ?_)
  refine ev_aload_nS (x := 0) (pc := 7) d_st_charAt_7 rfl ?_
  refine ev_sgetV (g := 1) (i := 0) (by decide) (by decide) (by decide) (pc := 8) d_st_charAt_8 y_val ?_
  refine ev_iload_n (x := nI k) (pc := 11) d_st_charAt_11 rfl ?_
  refine ev_callS (z := m_sl_charAt) (as := [.float 1, .int (nI k)]) (rest := []) (pc := 12) d_st_charAt_12 l_st_495 i_sl_charAt o_sl_charAt rfl rfl (Nat.le_of_ble_eq_true rfl) rfl (Nat.le_of_ble_eq_true rfl) ⟨Nat.le_of_ble_eq_true rfl, Nat.le_of_ble_eq_true rfl⟩ (s_slchar0 hk) (fun r X' hq => ?_)
  obtain ⟨rfl, rfl⟩ := hq
  exact ev_iret (pc := 15) ⟨Nat.le_of_ble_eq_true rfl, Nat.le_of_ble_eq_true rfl⟩ d_st_charAt_15 rfl (byt0 k hk).2 ⟨rfl, rfl⟩
theorem s_coder1 : Ev E m_st_coder 0 [(0, .float 2)] [] X (0, 0) (gp_q (some (.int 0)) X) := by
  refine ev_gets (pc := 0) d_st_coder_0 y_cs ?_
  refine ev_if_eq (pc := 3) (tgt := 13) d_st_coder_3 (by decide) (fun c => absurd c (by decide)) (fun _ => ?_)
  refine ev_aload_nS (x := 2) (pc := 6) d_st_coder_6 rfl ?_
  refine ev_sgetC (i := 1) (by decide) (by decide) (pc := 7) d_st_coder_7 y_cod ?_
  refine ev_goto (pc := 10) (tgt := 14) d_st_coder_10 (by decide) ?_
  exact ev_iret (pc := 14) ⟨Nat.le_of_ble_eq_true rfl, Nat.le_of_ble_eq_true rfl⟩ d_st_coder_14 rfl (by decide) ⟨rfl, rfl⟩
theorem s_latin1 : Ev E m_st_isLatin1 0 [(0, .float 2)] [] X (0, 0) (gp_q (some (.int 1)) X) := by
  refine ev_gets (pc := 0) d_st_isLatin1_0 y_cs ?_
  refine ev_if_eq (pc := 3) (tgt := 17) d_st_isLatin1_3 (by decide) (fun c => absurd c (by decide)) (fun _ => ?_)
  refine ev_aload_nS (x := 2) (pc := 6) d_st_isLatin1_6 rfl ?_
  refine ev_sgetC (i := 1) (by decide) (by decide) (pc := 7) d_st_isLatin1_7 y_cod ?_
  refine ev_if_ne (pc := 10) (tgt := 17) d_st_isLatin1_10 (by decide) (fun c => absurd rfl c) (fun _ => ?_)
  refine ev_iconst (v := 1) (pc := 13) d_st_isLatin1_13 kc_i_1 ?_
  refine ev_goto (pc := 14) (tgt := 18) d_st_isLatin1_14 (by decide) ?_
  exact ev_iret (pc := 18) ⟨Nat.le_of_ble_eq_true rfl, Nat.le_of_ble_eq_true rfl⟩ d_st_isLatin1_18 rfl nb_1 ⟨rfl, rfl⟩
theorem s_length1 : Ev E m_st_length 0 [(0, .float 2)] [] X (0, 0) (gp_q (some (.int 25)) X) := by
  refine ev_aload_nS (x := 2) (pc := 0) d_st_length_0 rfl ?_
  refine ev_sgetV (g := 3) (i := 1) (by decide) (by decide) (by decide) (pc := 1) d_st_length_1 y_val ?_
  refine ev_slen (v := 25) (i := 1) (by decide) (by decide) (by decide) (pc := 4) d_st_length_4 ?_
  refine ev_aload_nS (x := 2) (pc := 5) d_st_length_5 rfl ?_
  refine ev_callVS (i := 1) (by decide) (by decide) (z := m_st_coder) (as := []) (rest := [.int 25]) (pc := 6) d_st_length_6 rfl l_st_335 i_st_coder v_st_coder o_st_coder rfl rfl (Nat.le_of_ble_eq_true rfl) rfl (Nat.le_of_ble_eq_true rfl) ⟨Nat.le_of_ble_eq_true rfl, Nat.le_of_ble_eq_true rfl⟩ s_coder1 (fun r X' hq => ?_)
  obtain ⟨rfl, rfl⟩ := hq
  refine ev_ishr (pc := 9) d_st_length_9 ?_
  exact ev_iret (pc := 10) ⟨Nat.le_of_ble_eq_true rfl, Nat.le_of_ble_eq_true rfl⟩ d_st_length_10 rfl (vp_nar_int _) ⟨by decide, rfl⟩
theorem byt1 : ∀ k, k < 25 → (((((gp_byt.getD 1 []).getD k 0) &&& 255).toUInt32 % 65536).toInt32 = (gp_byt.getD 1 []).getD k 0 ∧ narrow .char (.int ((gp_byt.getD 1 []).getD k 0)) = .int ((gp_byt.getD 1 []).getD k 0)) := by decide +kernel
theorem s_slchar1 {k : Nat} (hk : k < 25) : Ev E m_sl_charAt 0 [(0, .float 3), (1, .int (nI k))] [] X (0, 0) (gp_q (some (.int ((gp_byt.getD 1 []).getD k 0))) X) := by
  refine ev_iload_n (x := nI k) (pc := 0) d_sl_charAt_0 rfl ?_
  refine ev_aload_nS (x := 3) (pc := 1) d_sl_charAt_1 rfl ?_
  refine ev_slen (v := nI 25) (i := 1) (by decide) (by decide) (by decide) (pc := 2) d_sl_charAt_2 ?_
  refine ev_callS (z := m_st_checkIndex) (as := [.int (nI k), .int (nI 25)]) (rest := []) (pc := 3) d_sl_charAt_3 l_sl_9 i_st_checkIndex o_st_checkIndex rfl rfl (Nat.le_of_ble_eq_true rfl) rfl (Nat.le_of_ble_eq_true rfl) ⟨Nat.le_of_ble_eq_true rfl, Nat.le_of_ble_eq_true rfl⟩ (s_st_checkIndex (by rw [show (0 : Int32) = nI 0 from rfl, nI_ltI (by omega) (by omega)]; omega) (nI_ltt hk (by omega))) (fun r X' hq => ?_)
  obtain ⟨rfl, rfl⟩ := hq
  refine ev_aload_nS (x := 3) (pc := 6) d_sl_charAt_6 rfl ?_
  refine ev_iload_n (x := nI k) (pc := 7) d_sl_charAt_7 rfl ?_
  refine ev_sbald (v := (gp_byt.getD 1 []).getD k 0) (i := 1) (by decide) (by decide) (vin hk (by decide)) (by rw [nI_c (by omega)]) (pc := 8) d_sl_charAt_8 ?_
  refine ev_sipush (v := 255) (pc := 9) d_sl_charAt_9 (by decide) ?_
  refine ev_iand (pc := 12) d_sl_charAt_12 ?_
  refine ev_i2c (pc := 13) d_sl_charAt_13 (byt1 k hk).1 ?_
  exact ev_iret (pc := 14) ⟨Nat.le_of_ble_eq_true rfl, Nat.le_of_ble_eq_true rfl⟩ d_sl_charAt_14 rfl (byt1 k hk).2 ⟨rfl, rfl⟩
theorem s_char1 {k : Nat} (hk : k < 25) : Ev E m_st_charAt 0 [(0, .float 2), (1, .int (nI k))] [] X (0, 0) (gp_q (some (.int ((gp_byt.getD 1 []).getD k 0))) X) := by
  refine ev_aload_nS (x := 2) (pc := 0) d_st_charAt_0 rfl ?_
  refine ev_callVS (i := 1) (by decide) (by decide) (z := m_st_isLatin1) (as := []) (rest := []) (pc := 1) d_st_charAt_1 rfl l_st_492 i_st_isLatin1 v_st_isLatin1 o_st_isLatin1 rfl rfl (Nat.le_of_ble_eq_true rfl) rfl (Nat.le_of_ble_eq_true rfl) ⟨Nat.le_of_ble_eq_true rfl, Nat.le_of_ble_eq_true rfl⟩ s_latin1 (fun r X' hq => ?_)
  obtain ⟨rfl, rfl⟩ := hq
  refine ev_if_eq (pc := 4) (tgt := 16) d_st_charAt_4 (by decide) (fun c => absurd c (by decide)) (fun _ => ?_)
  refine ev_aload_nS (x := 2) (pc := 7) d_st_charAt_7 rfl ?_
  refine ev_sgetV (g := 3) (i := 1) (by decide) (by decide) (by decide) (pc := 8) d_st_charAt_8 y_val ?_
  refine ev_iload_n (x := nI k) (pc := 11) d_st_charAt_11 rfl ?_
  refine ev_callS (z := m_sl_charAt) (as := [.float 3, .int (nI k)]) (rest := []) (pc := 12) d_st_charAt_12 l_st_495 i_sl_charAt o_sl_charAt rfl rfl (Nat.le_of_ble_eq_true rfl) rfl (Nat.le_of_ble_eq_true rfl) ⟨Nat.le_of_ble_eq_true rfl, Nat.le_of_ble_eq_true rfl⟩ (s_slchar1 hk) (fun r X' hq => ?_)
  obtain ⟨rfl, rfl⟩ := hq
  exact ev_iret (pc := 15) ⟨Nat.le_of_ble_eq_true rfl, Nat.le_of_ble_eq_true rfl⟩ d_st_charAt_15 rfl (byt1 k hk).2 ⟨rfl, rfl⟩
end STM
