
set_option maxRecDepth 100000 in
theorem gp_elems : ∀ i, i < 2 → ∀ j, j < gp_len.getD i 0 → Cond.eq (.elem (.field (gp_tm i) "java/lang/String" "value" "[B") (.int (Int32.ofNat j))) (.int ((gp_byt.getD i []).getD j 0)) ∈ flatC (Jvm.Cond.and given_1 narrow_1) := by decide +kernel
set_option maxRecDepth 100000 in
theorem gp_ncs : ∀ q ∈ lw_c, Cond.not (.castable q.1 q.2) ∈ flatC (Jvm.Cond.and given_1 narrow_1) := by decide +kernel

set_option maxHeartbeats 4000000 in
set_option maxRecDepth 100000 in
/-- FROM THE JUDGEMENT TO THE CLAIM: what is owed is Ev at the law's entry -/
theorem start_of {p : Program} {e : Env} {s : State} {m : MethodId} {below : List Frame} {meth : Method} {c : Code} (l : Launch) {b L : Nat} {xs : Nat → Int32} (C0 : lw_At p s m meth c b L xs)
    (hE : Ev (l, L, xs) m_lw_law 0 [(0, .float 100)] [] gp_X0 (0, 0) (fun r _ => r = some (.int 1))) : W p l e room_1 s m #[Value.ref b] below meth c s.heap [] 0 0 (lw_Z below #[Value.ref b] s) (entryFrame m ([Value.ref b] : List Value).toArray 4) := by
  obtain ⟨hx, hb, hr, hml, hown, hts, hX, hbl, hlocks, hgv, hmN⟩ := C0
  have hfl := flat_of_before _ hgv
  have hnA : ∀ a : Nat, a < s.heap.size → ¬ (fun q : Nat => s.heap.size ≤ q) a := fun a h => Nat.not_le.mpr h
  obtain ⟨c0, i0, hk0⟩ := u_known (C := gp_R 0) (T := gp_T 0) (N := gp_nf 0) hts (gp_cl_ws 0 (by decide)) (hts (.instantiable (gp_R 0) 11) (lw_t1 (List.mem_of_getElem? (i := 165) (by decide +kernel))))
  obtain ⟨c1, i1, hk1⟩ := u_known (C := gp_R 1) (T := gp_T 1) (N := gp_nf 1) hts (gp_cl_ws 1 (by decide)) (hts (.instantiable (gp_R 1) 6) (lw_t3 (List.mem_of_getElem? (i := 63) (by decide +kernel))))
  obtain ⟨c2, i2, hk2⟩ := u_known (C := gp_R 2) (T := gp_T 2) (N := gp_nf 2) hts (gp_cl_ws 2 (by decide)) (hts (.instantiable (gp_R 2) 6) (lw_t3 (List.mem_of_getElem? (i := 50) (by decide +kernel))))
  obtain ⟨c3, i3, hk3⟩ := u_known (C := gp_R 3) (T := gp_T 3) (N := gp_nf 3) hts (gp_cl_ws 3 (by decide)) (hts (.instantiable (gp_R 3) 10) (lw_t3 (List.mem_of_getElem? (i := 92) (by decide +kernel))))
  obtain ⟨c4, i4, hk4⟩ := u_known (C := gp_R 4) (T := gp_T 4) (N := gp_nf 4) hts (gp_cl_ws 4 (by decide)) (hts (.instantiable (gp_R 4) 9) (lw_t1 (List.mem_of_getElem? (i := 213) (by decide +kernel))))
  obtain ⟨c5, i5, hk5⟩ := u_known (C := gp_R 5) (T := gp_T 5) (N := gp_nf 5) hts (gp_cl_ws 5 (by decide)) (hts (.instantiable (gp_R 5) 14) (lw_t1 (List.mem_of_getElem? (i := 31) (by decide +kernel))))
  obtain ⟨c6, i6, hk6⟩ := u_known (C := gp_R 6) (T := gp_T 6) (N := gp_nf 6) hts (gp_cl_ws 6 (by decide)) (hts (.instantiable (gp_R 6) 6) (lw_t3 (List.mem_of_getElem? (i := 7) (by decide +kernel))))
  obtain ⟨c7, i7, hk7⟩ := u_known (C := gp_R 7) (T := gp_T 7) (N := gp_nf 7) hts (gp_cl_ws 7 (by decide)) (hts (.instantiable (gp_R 7) 6) (lw_t3 (List.mem_of_getElem? (i := 75) (by decide +kernel))))
  obtain ⟨c8, i8, hk8⟩ := u_known (C := gp_R 8) (T := gp_T 8) (N := gp_nf 8) hts (gp_cl_ws 8 (by decide)) (hts (.instantiable (gp_R 8) 12) (lw_t1 (List.mem_of_getElem? (i := 115) (by decide +kernel))))
  obtain ⟨c9, i9, hk9⟩ := u_known (C := gp_R 9) (T := gp_T 9) (N := gp_nf 9) hts (gp_cl_ws 9 (by decide)) (hts (.instantiable (gp_R 9) 3) (lw_t2 (List.mem_of_getElem? (i := 9) (by decide +kernel))))
  obtain ⟨c10, i10, hk10⟩ := u_known (C := gp_R 10) (T := gp_T 10) (N := gp_nf 10) hts (gp_cl_ws 10 (by decide)) (hts (.instantiable (gp_R 10) 2) (lw_t1 (List.mem_of_getElem? (i := 96) (by decide +kernel))))
  obtain ⟨c11, i11, hk11⟩ := u_known (C := gp_R 11) (T := gp_T 11) (N := gp_nf 11) hts (gp_cl_ws 11 (by decide)) (hts (.instantiable (gp_R 11) 20) (lw_t1 (List.mem_of_getElem? (i := 23) (by decide +kernel))))
  obtain ⟨c12, i12, hk12⟩ := u_known (C := gp_R 12) (T := gp_T 12) (N := gp_nf 12) hts (gp_cl_ws 12 (by decide)) (hts (.instantiable (gp_R 12) 79) (lw_t5 (List.mem_of_getElem? (i := 205) (by decide +kernel))))
  have htb : ∀ {w : Cond}, w ∈ lw_tbl → w.onTables = true → w.before #[] s = true := fun hw ho => va_tabs ho rfl (hts _ hw)
  obtain ⟨a0, ha0, hb0⟩ := gp_arrOf (ty := .int) (hts (.arrayClass .int) (lw_t1 (List.mem_of_getElem? (i := 93) (by decide +kernel))))
  obtain ⟨a1, ha1, hb1⟩ := gp_arrOf (ty := .boolean) (hts (.arrayClass .boolean) (lw_t1 (List.mem_of_getElem? (i := 94) (by decide +kernel))))
  obtain ⟨a2, ha2, hb2⟩ := gp_arrOf (ty := .long) (hts (.arrayClass .long) (lw_t6 (List.mem_of_getElem? (i := 208) (by decide +kernel))))
  have hO3 : va_AO "GasTurn$Ring" s := hts (.arrayOver (.object "GasTurn$Ring")) (lw_t1 (List.mem_of_getElem? (i := 111) (by decide +kernel)))
  have hO4 : va_AO "GasTurn$Home" s := hts (.arrayOver (.object "GasTurn$Home")) (lw_t1 (List.mem_of_getElem? (i := 113) (by decide +kernel)))
  have hO5 : (Cond.arrayOver (.array .int)).before #[] s = true := hts (.arrayOver (.array .int)) (lw_t2 (List.mem_of_getElem? (i := 15) (by decide +kernel)))
  obtain ⟨p3, a3, k3, q31, q32, q33, q34, q35⟩ := Cond.arrayOver_spec hO3
  obtain ⟨p4, a4, k4, q41, q42, q43, q44, q45⟩ := Cond.arrayOver_spec hO4
  obtain ⟨p5, a5, k5, q51, q52, q53, q54, q55⟩ := arrayOverA_spec hO5
  obtain ⟨adK, adV, hS, hev⟩ := vk_Sof (args := #[Value.ref b]) (s := s) (N := 2) (tm := gp_tm) (len := gp_len) (byt := gp_byt) (A := fun q : Nat => s.heap.size ≤ q)
    (fun i hi => by match i, hi with
      | 0, _ => exact (by decide)
      | 1, _ => exact (by decide))
    (fun i hi => by match i, hi with
      | 0, _ => exact hfl _ (by decide +kernel)
      | 1, _ => exact hfl _ (by decide +kernel))
    (fun i hi => by match i, hi with
      | 0, _ => exact hfl _ (by decide +kernel)
      | 1, _ => exact hfl _ (by decide +kernel))
    (fun i hi => by match i, hi with
      | 0, _ => exact hfl _ (by decide +kernel)
      | 1, _ => exact hfl _ (by decide +kernel))
    (fun i hi => by match i, hi with
      | 0, _ => exact hfl _ (by decide +kernel)
      | 1, _ => exact hfl _ (by decide +kernel))
    (fun i hi j hj => hfl _ (by
      have := gp_elems i hi j hj
      exact this))
    (fun i j hi hj hij => by
      match i, hi, j, hj with
      | 0, _, 0, _ => exact absurd rfl hij
      | 0, _, 1, _ => first | exact Or.inl (hfl _ (by decide +kernel)) | exact Or.inr (hfl _ (by decide +kernel))
      | 1, _, 0, _ => first | exact Or.inl (hfl _ (by decide +kernel)) | exact Or.inr (hfl _ (by decide +kernel))
      | 1, _, 1, _ => exact absurd rfl hij) hnA
  let G : gp_G := (fun k => match k with | 0 => c0 | 1 => c1 | 2 => c2 | 3 => c3 | 4 => c4 | 5 => c5 | 6 => c6 | 7 => c7 | 8 => c8 | 9 => c9 | 10 => c10 | 11 => c11 | _ => c12, fun k => match k with | 0 => i0 | 1 => i1 | 2 => i2 | 3 => i3 | 4 => i4 | 5 => i5 | 6 => i6 | 7 => i7 | 8 => i8 | 9 => i9 | 10 => i10 | 11 => i11 | _ => i12, (fun t => match t with | 0 => a0 | 1 => a1 | 2 => a2 | 3 => a3 | 4 => a4 | _ => a5), s.heap.size, (fun k => match k with | 0 => adK 0 | 1 => adV 0 | 2 => adK 1 | 3 => adV 1 | _ => b))
  have hK : va_K (G.1, G.2.1) gp_cl (gp_tys G) s := by
    refine ⟨fun k q hq => ?_, fun k q hq => ?_⟩
    · match k, hq with
      | 0, hq => cases hq; exact hk0
      | 1, hq => cases hq; exact hk1
      | 2, hq => cases hq; exact hk2
      | 3, hq => cases hq; exact hk3
      | 4, hq => cases hq; exact hk4
      | 5, hq => cases hq; exact hk5
      | 6, hq => cases hq; exact hk6
      | 7, hq => cases hq; exact hk7
      | 8, hq => cases hq; exact hk8
      | 9, hq => cases hq; exact hk9
      | 10, hq => cases hq; exact hk10
      | 11, hq => cases hq; exact hk11
      | 12, hq => cases hq; exact hk12
      | k + 13, hq => simp [gp_cl] at hq
    · match k, hq with
      | 0, hq => cases hq; exact ⟨ha0, hb0⟩
      | 1, hq => cases hq; exact ⟨ha1, hb1⟩
      | 2, hq => cases hq; exact ⟨ha2, hb2⟩
      | 3, hq => cases hq; exact ⟨fun n z => ⟨fun k q => (by cases q), k3, q33, p3, q34⟩, k3, p3, q33, q34, q31, q35⟩
      | 4, hq => cases hq; exact ⟨fun n z => ⟨fun k q => (by cases q), k4, q43, p4, q44⟩, k4, p4, q43, q44, q41, q45⟩
      | 5, hq => cases hq; exact ⟨fun n z => ⟨fun k q => (by cases q), k5, q53, p5, q54⟩, q55⟩
      | k + 6, hq => simp [gp_tys] at hq
  have hN : gp_N s := by
    refine ⟨fun w hw => ?_, fun q hq => ?_, hO3, hO4, hO5⟩
    · have h1 := (List.mem_filter.mp hw)
      have h2 := hts w h1.1
      have h3 := h1.2
      cases w <;> first | (exact absurd h3 Bool.false_ne_true) | exact va_Nw.of rfl h2
    · have := gp_ncs q hq
      exact va_Nc.of (hfl _ this)
  have hZ : gp_Z (l, L, xs) G s s.heap := by
    refine ⟨⟨hX, hbl⟩, ⟨fun i hi => ?_, fun i j hi hj => ?_⟩, ⟨?_, ?_⟩, ?_, ?_, hN⟩
    · match i, hi with
      | 0, h => exact hS.1 0 h
      | 1, h => exact hS.1 1 h
    · match i, hi, j, hj with
      | 0, h, 0, h' => exact hS.2 0 0 h h'
      | 0, h, 1, h' => exact hS.2 0 1 h h'
      | 1, h, 0, h' => exact hS.2 1 0 h h'
      | 1, h, 1, h' => exact hS.2 1 1 h h'
    · exact vk_R.of (A := #[Value.ref b]) (hts (.stringRef "GasTurn$Laws" 38 "bar sector 1 week 3 to 3") (lw_t5 (List.mem_of_getElem? (i := 8) (by decide +kernel)))) (hev 0 (by decide))
    · exact vk_R.of (A := #[Value.ref b]) (hts (.stringRef "GasTurn$Laws" 48 "pay 4 class 1 from week 3") (lw_t5 (List.mem_of_getElem? (i := 76) (by decide +kernel)))) (hev 1 (by decide))
    · exact va_Zof (hts (.laysStatic "java/lang/String" "COMPACT_STRINGS" "Z") (lw_t5 (List.mem_of_getElem? (i := 22) (by decide +kernel)))) (hts (.initialized "java/lang/String") (lw_t1 (List.mem_of_getElem? (i := 17) (by decide +kernel)))) (va_eqi (hfl _ (by decide +kernel))) hnA
    · exact va_Zqof (hts (.laysStatic "jdk/internal/util/Preconditions" "SIOOBE_FORMATTER" "Ljava/util/function/BiFunction;") (lw_t5 (List.mem_of_getElem? (i := 38) (by decide +kernel)))) (hts (.initialized "jdk/internal/util/Preconditions") (lw_t1 (List.mem_of_getElem? (i := 19) (by decide +kernel)))) (hfl _ (by decide +kernel)) hnA
  have hl := lv_entry ([.ref b]) (n := 4) (Nat.le_of_ble_eq_true rfl)
  rw [lg_entry_eq]
  refine hE G p e s m _ below meth c s.heap [] _ _ ⟨hx, hb, hml, hr, hown, fun w hw => hts w (List.mem_filter.mp hw).1, hlocks, hmN, hK, Nat.le_refl _, hZ⟩ ?_ ⟨rfl, fun k q hk => by simp [gp_w, gp_X0] at hk, va_S.rf⟩ hl
  intro r X' H locs cells slots pc ls hQ hH hc hs hrt
  subst hQ
  rcases hrt with ⟨h1, -⟩ | ⟨v, ty, h1, k1, k2, k3⟩ | ⟨v, h1, -⟩ | ⟨v, rt, h1, h2, -⟩
  · cases h1
  · cases h1
    refine va_forget (fun q hq => hH.2.2.2.2 q hq) ?_
    refine W.widen (k := 600000) (n := 7302250) hc hs ?_
    exact lw_ret hx hb hr hlocks k1
  · cases h1
  · cases h1
    rcases h2 with h2 | ⟨a, h2⟩ <;> cases h2
