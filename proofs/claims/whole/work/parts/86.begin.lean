/-- the heap at the loop's first head -/
def gp_XF : gp_H := x_mo_init (gp_nw (x_ga_init (gp_nw gp_X0 (11, 0))) (12, 0))
def gp_S0 : gp_S := (0, 0, fun _ => 0, fun _ => 0, fun _ => 0, fun _ => 0)
theorem xf_pb : gp_Pb gp_XF := xp_mo_init (pb_nw (xp_ga_init (pb_nw (fun _ _ _ => ⟨rfl, rfl⟩))))
set_option maxRecDepth 100000 in
theorem xf_k : ∀ i, i < 114 → gp_XF.2.1 i = ly_k i := by decide +kernel
set_option maxRecDepth 100000 in
theorem xf_r0 : ∀ i, i < 114 → ∀ k, k < 79 → gp_XF.2.2.1 i k = ly_r i k := by decide +kernel
theorem ly_R_len : ∀ l ∈ ly_R, l.length ≤ 79 := by decide +kernel
theorem xf_r (i : Nat) (hi : i < 114) (k : Nat) : gp_XF.2.2.1 i k = ly_r i k := by
  by_cases hk : k < 79
  · exact xf_r0 i hi k hk
  · rw [(xf_pb i k (by omega)).1]
    unfold ly_r
    have hl : (ly_R.getD i []).length ≤ 79 := by
      rw [List.getD_eq_getElem?_getD]
      cases h : ly_R[i]? with
      | none => simp
      | some l => exact ly_R_len l (List.mem_of_getElem? h)
    rw [List.getD_eq_getElem?_getD, List.getElem?_eq_none (by omega)]
    rfl
set_option maxRecDepth 100000 in
theorem xf_z0 : ∀ i ∈ ([2, 3, 4, 5, 6, 7, 8, 9, 10, 11, 14, 17, 18, 19, 20, 21, 22, 24, 25, 26, 27, 28, 29, 30, 32, 33, 34, 35, 36, 37, 38, 39, 41, 42, 43, 44, 45, 46, 47, 50, 52, 53, 54, 56, 57, 58, 59, 60, 61, 62, 63, 65, 66, 67, 68, 69, 70, 71, 72, 73, 74, 75, 76, 77, 78, 79, 80, 81, 82, 83, 84, 85, 86, 87, 88, 89, 90, 91, 92, 93, 94, 95, 96, 97, 98, 99, 100, 101, 102, 103, 105, 106, 107, 108, 112, 113] : List Nat), ∀ k, k < 79 → gI gp_XF i k = 0 := by decide +kernel
theorem xf_z {i : Nat} (hi : i ∈ ([2, 3, 4, 5, 6, 7, 8, 9, 10, 11, 14, 17, 18, 19, 20, 21, 22, 24, 25, 26, 27, 28, 29, 30, 32, 33, 34, 35, 36, 37, 38, 39, 41, 42, 43, 44, 45, 46, 47, 50, 52, 53, 54, 56, 57, 58, 59, 60, 61, 62, 63, 65, 66, 67, 68, 69, 70, 71, 72, 73, 74, 75, 76, 77, 78, 79, 80, 81, 82, 83, 84, 85, 86, 87, 88, 89, 90, 91, 92, 93, 94, 95, 96, 97, 98, 99, 100, 101, 102, 103, 105, 106, 107, 108, 112, 113] : List Nat)) (k : Nat) : gI gp_XF i k = 0 := by
  by_cases hk : k < 79
  · exact xf_z0 i hi k hk
  · exact (xf_pb i k (by omega)).2
theorem xf_same {a b : Nat} (h : ∀ k, k < 79 → gI gp_XF a k = gI gp_XF b k) (k : Nat) : gI gp_XF a k = gI gp_XF b k := by
  by_cases hk : k < 79
  · exact h k hk
  · exact (xf_pb a k (by omega)).2.trans (xf_pb b k (by omega)).2.symm
theorem xf_lay : Lay gp_S0 gp_XF := by
  refine ⟨by decide +kernel, xf_k, fun i hi _ _ k => xf_r i hi k, fun j hj => absurd hj (Nat.not_lt_zero _), fun j hj => absurd hj (Nat.not_lt_zero _), fun i j hi => absurd hi (Nat.not_lt_zero _), fun i j hi => absurd hi (Nat.not_lt_zero _), Nat.zero_le _, Nat.zero_le _⟩
theorem z01 {i : Nat} (hi : i ∈ ([2, 3, 4, 5, 6, 7, 8, 9, 10, 11, 14, 17, 18, 19, 20, 21, 22, 24, 25, 26, 27, 28, 29, 30, 32, 33, 34, 35, 36, 37, 38, 39, 41, 42, 43, 44, 45, 46, 47, 50, 52, 53, 54, 56, 57, 58, 59, 60, 61, 62, 63, 65, 66, 67, 68, 69, 70, 71, 72, 73, 74, 75, 76, 77, 78, 79, 80, 81, 82, 83, 84, 85, 86, 87, 88, 89, 90, 91, 92, 93, 94, 95, 96, 97, 98, 99, 100, 101, 102, 103, 105, 106, 107, 108, 112, 113] : List Nat)) (k : Nat) : is01 (gI gp_XF i k) := Or.inl (xf_z hi k)
theorem zeq {i j : Nat} (hi : i ∈ ([2, 3, 4, 5, 6, 7, 8, 9, 10, 11, 14, 17, 18, 19, 20, 21, 22, 24, 25, 26, 27, 28, 29, 30, 32, 33, 34, 35, 36, 37, 38, 39, 41, 42, 43, 44, 45, 46, 47, 50, 52, 53, 54, 56, 57, 58, 59, 60, 61, 62, 63, 65, 66, 67, 68, 69, 70, 71, 72, 73, 74, 75, 76, 77, 78, 79, 80, 81, 82, 83, 84, 85, 86, 87, 88, 89, 90, 91, 92, 93, 94, 95, 96, 97, 98, 99, 100, 101, 102, 103, 105, 106, 107, 108, 112, 113] : List Nat)) (hj : j ∈ ([2, 3, 4, 5, 6, 7, 8, 9, 10, 11, 14, 17, 18, 19, 20, 21, 22, 24, 25, 26, 27, 28, 29, 30, 32, 33, 34, 35, 36, 37, 38, 39, 41, 42, 43, 44, 45, 46, 47, 50, 52, 53, 54, 56, 57, 58, 59, 60, 61, 62, 63, 65, 66, 67, 68, 69, 70, 71, 72, 73, 74, 75, 76, 77, 78, 79, 80, 81, 82, 83, 84, 85, 86, 87, 88, 89, 90, 91, 92, 93, 94, 95, 96, 97, 98, 99, 100, 101, 102, 103, 105, 106, 107, 108, 112, 113] : List Nat)) (k : Nat) : gI gp_XF i k = gI gp_XF j k := (xf_z hi k).trans (xf_z hj k).symm
set_option maxRecDepth 100000 in
theorem xf_inv : Inv (fun _ => 0) gp_S0 gp_XF := by
  refine ⟨xf_lay, ?_, ?_, ?_, ?_, ?_, ?_, ?_, ?_, ?_, ?_, ?_, ?_, ?_, ?_, ?_, ?_, ?_, ?_, ?_, ?_, ?_⟩
  · refine ⟨⟨by decide +kernel, by decide +kernel, by decide⟩, ⟨by decide +kernel, by decide +kernel, by decide⟩, fun p => ⟨zeq (by decide) (by decide) p, zeq (by decide) (by decide) p, zeq (by decide) (by decide) p, zeq (by decide) (by decide) p⟩, fun p hp => absurd hp (Nat.not_lt_zero _), fun p => ⟨z01 (by decide) p, z01 (by decide) p⟩, fun p hp => absurd hp (Nat.not_lt_zero _), fun k _ => xf_z (by decide) k, fun k _ => xf_z (by decide) k, by decide +kernel, Or.inl (by decide +kernel)⟩
  · exact ⟨⟨by decide +kernel, by decide +kernel, by decide⟩, fun w => ⟨zeq (by decide) (by decide) w, zeq (by decide) (by decide) w, zeq (by decide) (by decide) w, zeq (by decide) (by decide) w⟩, fun w hw => absurd hw (Nat.not_lt_zero _), fun w => z01 (by decide) w⟩
  · exact xf_same (by decide +kernel)
  · exact ⟨⟨by decide +kernel, by decide +kernel⟩, fun j hj => absurd hj (Nat.not_lt_zero _)⟩
  · exact ⟨⟨by decide +kernel, by decide +kernel⟩, fun j hj => absurd hj (Nat.not_lt_zero _)⟩
  · exact ⟨(show gI gp_XF 55 56 = 0 by decide +kernel), fun j _ => xf_z (by decide) j⟩
  · exact ⟨⟨by decide +kernel, by decide +kernel, by decide⟩, fun i hi => absurd hi (Nat.not_lt_zero _), fun j hj => absurd hj (Nat.not_lt_zero _)⟩
  · exact fun i => ⟨zeq (by decide) (by decide) i, 0, by decide, xf_z (by decide) i⟩
  · exact ⟨⟨by decide +kernel, by decide +kernel, by decide⟩, fun i => ⟨zeq (by decide) (by decide) i, zeq (by decide) (by decide) i, zeq (by decide) (by decide) i⟩, fun i hi => absurd hi (Nat.not_lt_zero _)⟩
  · exact ⟨⟨by decide +kernel, by decide +kernel, by decide⟩, fun i => zeq (by decide) (by decide) i, fun i hi => absurd hi (Nat.not_lt_zero _), fun i j hi => absurd hi (Nat.not_lt_zero _), fun i => z01 (by decide) i, fun i hi => absurd hi (Nat.not_lt_zero _), by decide +kernel, by decide +kernel, fun i _ => xf_z (by decide) i⟩
  · exact ⟨⟨by decide +kernel, by decide +kernel, by decide⟩, fun i hi => absurd hi (Nat.not_lt_zero _), fun i j hi => absurd hi (Nat.not_lt_zero _)⟩
  · exact ⟨⟨by decide +kernel, by decide +kernel, by decide⟩, fun i hi => absurd hi (Nat.not_lt_zero _)⟩
  · exact ⟨by decide +kernel, by decide +kernel, by decide⟩
  · exact ⟨⟨by decide +kernel, by decide +kernel, by decide⟩, fun i => ⟨zeq (by decide) (by decide) i, zeq (by decide) (by decide) i, zeq (by decide) (by decide) i, zeq (by decide) (by decide) i⟩, fun i hi => absurd hi (Nat.not_lt_zero _), fun i => ⟨0, Nat.zero_le _, xf_z (by decide) i⟩⟩
  · exact ⟨⟨by decide +kernel, by decide +kernel, by decide⟩, fun i => ⟨zeq (by decide) (by decide) i, zeq (by decide) (by decide) i, zeq (by decide) (by decide) i, zeq (by decide) (by decide) i⟩, fun i hi => absurd hi (Nat.not_lt_zero _)⟩
  · show gI gp_XF 31 10 = gI gp_XF 55 55
    decide +kernel
  · exact ⟨⟨by decide +kernel, by decide +kernel, by decide⟩, fun i hi => absurd hi (Nat.not_lt_zero _), fun i => ⟨z01 (by decide) i, z01 (by decide) i⟩⟩
  · exact ⟨⟨by decide +kernel, by decide +kernel, by decide⟩, fun i => ⟨zeq (by decide) (by decide) i, 0, by decide, xf_z (by decide) i⟩⟩
  · exact ⟨⟨by decide +kernel, 0, by decide, by decide +kernel⟩, fun i => zeq (by decide) (by decide) i⟩
  · intro s hs
    have h1 : ∀ s, s < 3 → gI gp_XF 49 s = gI gp_XF 104 s ∧ gI gp_XF 104 s = -1 := by decide +kernel
    exact ⟨(h1 s hs).1, Or.inl (h1 s hs).2, fun h => absurd (h1 s hs).2 h⟩
  · exact ⟨by decide +kernel, by decide +kernel⟩
/-- THE LAW from its entry, out of the 49 pairs -/
theorem law_start {E : gp_E} (hL : E.2.1 ≤ 3072) (hp : PR_all E) : Ev E m_lw_law 0 [(0, .float 100)] [] gp_X0 (0, 0) (fun r _ => r = some (.int 1)) := by
  have n0 : gp_X0.1 = 0 := rfl
  have n1 := nw_n (q := (11, 0)) n0
  have n2 := xn_ga_init n1
  have n3 := nw_n (q := (12, 0)) n2
  refine ev_newJ (ci := 11) (r := 0) (u2 := (1, 20)) (pc := 0) n0 d_lw_law_0 lt13_11 rfl c_lw_7 n_ga tt_ga ⟨Nat.le_of_ble_eq_true rfl, Nat.le_of_ble_eq_true rfl⟩ rfl ?_
  refine ev_dup (pc := 3) d_lw_law_3 rfl ?_
  refine ev_callI (z := m_ga_init) (as := []) (rest := [.ref 0]) (pc := 4) d_lw_law_4 l_lw_9 i_ga_init o_ga_init rfl rfl rfl rfl (Nat.le_of_ble_eq_true rfl) rfl (Nat.le_of_ble_eq_true rfl) ⟨Nat.le_of_ble_eq_true rfl, Nat.le_of_ble_eq_true rfl⟩ (s_ga_init n1 (at_new n0)) (fun r X1 hq => ?_)
  obtain ⟨rfl, rfl⟩ := hq
  show Ev E m_lw_law 7 [(0, .float 100)] [.ref 0] (x_ga_init (gp_nw gp_X0 (11, 0))) (55, 1779) _
  refine ev_astore_n (L2 := [(0, .float 100), (1, .ref 0)]) (pc := 7) d_lw_law_7 rfl (Nat.le_of_ble_eq_true rfl) rfl ?_
  refine ev_newJ (ci := 12) (r := 55) (u2 := (56, 1858)) (pc := 8) n2 d_lw_law_8 lt13_12 rfl c_lw_10 n_mo tt_mo ⟨Nat.le_of_ble_eq_true rfl, Nat.le_of_ble_eq_true rfl⟩ rfl ?_
  refine ev_dup (pc := 11) d_lw_law_11 rfl ?_
  refine ev_callI (z := m_mo_init) (as := []) (rest := [.ref 55]) (pc := 12) d_lw_law_12 l_lw_12 i_mo_init o_mo_init rfl rfl rfl rfl (Nat.le_of_ble_eq_true rfl) rfl (Nat.le_of_ble_eq_true rfl) ⟨Nat.le_of_ble_eq_true rfl, Nat.le_of_ble_eq_true rfl⟩ (s_mo_init n3 (at_new n2)) (fun r X1 hq => ?_)
  obtain ⟨rfl, rfl⟩ := hq
  show Ev E m_lw_law 15 [(0, .float 100), (1, .ref 0)] [.ref 55] gp_XF (114, 5420) _
  refine ev_astore_n (L2 := [(0, .float 100), (1, .ref 0), (2, .ref 55)]) (pc := 15) d_lw_law_15 rfl (Nat.le_of_ble_eq_true rfl) rfl ?_
  refine ev_iconst (v := 0) (pc := 16) d_lw_law_16 kc_i_0 ?_
  refine ev_istore_n (L2 := [(0, .float 100), (1, .ref 0), (2, .ref 55), (3, .int (nI (6 * 0)))]) (pc := 17) d_lw_law_17 rfl (Nat.le_of_ble_eq_true rfl) rfl ?_
  exact law_loop hL hp 520 0 (by omega) (by omega) xf_inv (by show 114 ≤ _; omega) (by show 5420 ≤ _; omega)
/-- whole_start, out of the 49 pairs -/
theorem start_open {p : Program} {e : Env} {s : State} {m : MethodId} {below : List Frame} {meth : Method} {c : Code} (l : Launch) {b L : Nat} {xs : Nat → Int32} (hL : L ≤ 3072) (C0 : lw_At p s m meth c b L xs) (hp : PR_all (l, L, xs)) : W p l e room_1 s m #[Value.ref b] below meth c s.heap [] 0 0 (lw_Z below #[Value.ref b] s) (entryFrame m ([Value.ref b] : List Value).toArray 4) := start_of l C0 (law_start hL hp)
