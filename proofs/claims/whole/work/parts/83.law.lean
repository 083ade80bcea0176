theorem sc_in {E : gp_E} {i j : Nat} {x v : Int32} (hx : x = nI i) (hv : v = nI j) (hj : j < 6) (hi : i + 6 ≤ E.2.1) (hL : E.2.1 ≤ 3072) : vp_in (x + v) E.2.1 := by
  subst hx
  subst hv
  rw [show nI i + nI j = nI (i + j) from (nI_add i j).symm ▸ rfl]
  exact vin (by omega) (by omega)
def PR_knot (E : gp_E) : Prop := ∀ {N : Nat → Nat} {S : gp_S} {X : gp_H}, Inv N S X → Ev E m_ga_knot 0 [(0, .ref 0)] [] X (0, 0) (gp_two E m_mo_knot [(0, .ref 55)])
theorem lc_knot {E : gp_E} {N : Nat → Nat} {S : gp_S} {X : gp_H} {u : Nat × Nat} {Q : Option Value → gp_H → Prop} {i : Nat} {x3 : Int32} (hp : PR_knot E) (h : Inv N S X) (hx : x3 = nI i) (hi : i + 6 ≤ E.2.1) (hL : E.2.1 ≤ 3072) (hu : u.1 + 0 ≤ 600000 ∧ u.2 + 0 ≤ 7302250) (kk : ∀ N2 S2 X2, Inv N2 S2 X2 → Ev E m_lw_law 1771 [(0, .float 100), (1, .ref 0), (2, .ref 55), (3, .int x3)] [] X2 (u.1 + 0, u.2 + 0) Q) : Ev E m_lw_law 244 [(0, .float 100), (1, .ref 0), (2, .ref 55), (3, .int x3)] [] X u Q := by
  refine ev_aload_n (x := 0) (pc := 244) d_lw_law_244 rfl ?_
  refine ev_callV (z := m_ga_knot) (as := []) (rest := []) (pc := 245) d_lw_law_245 (ly_at h.lay 0 rfl) lt13_11 rfl l_lw_13 i_ga_knot v_ga_knot o_ga_knot rfl rfl (Nat.le_of_ble_eq_true rfl) rfl (Nat.le_of_ble_eq_true rfl) hu (hp h) (fun r X1 hq => ?_)
  obtain ⟨v, S1, rfl, hL1, hev⟩ := hq
  show Ev E m_lw_law 248 [(0, .float 100), (1, .ref 0), (2, .ref 55), (3, .int x3)] [.int v] X1 (u.1 + 0, u.2 + 0) Q
  refine ev_aload_n (x := 55) (pc := 248) d_lw_law_248 rfl ?_
  refine ev_callV (z := m_mo_knot) (as := []) (rest := [.int v]) (pc := 249) d_lw_law_249 (ly_at hL1 55 rfl) lt13_12 rfl l_lw_17 i_mo_knot v_mo_knot o_mo_knot rfl rfl (Nat.le_of_ble_eq_true rfl) rfl (Nat.le_of_ble_eq_true rfl) hu hev (fun r X2 hq => ?_)
  obtain ⟨rfl, N2, h2⟩ := hq
  show Ev E m_lw_law 252 [(0, .float 100), (1, .ref 0), (2, .ref 55), (3, .int x3)] [.int v, .int v] X2 (u.1 + 0, u.2 + 0) Q
  exact ev_icmp_eq (pc := 252) (tgt := 1771) d_lw_law_252 (by decide) (fun _ => kk N2 S1 X2 h2) (fun c => absurd rfl c)
def PR_pipe (E : gp_E) : Prop := ∀ {N : Nat → Nat} {S : gp_S} {X : gp_H}, Inv N S X → ∀ x1 x2 x3 : Int32, Ev E m_ga_pipe 0 [(0, .ref 0), (1, .int x1), (2, .int x2), (3, .int x3)] [] X (0, 0) (gp_two E m_mo_pipe [(0, .ref 55), (1, .int x1), (2, .int x2), (3, .int x3)])
theorem lc_pipe {E : gp_E} {N : Nat → Nat} {S : gp_S} {X : gp_H} {u : Nat × Nat} {Q : Option Value → gp_H → Prop} {i : Nat} {x3 : Int32} (hp : PR_pipe E) (h : Inv N S X) (hx : x3 = nI i) (hi : i + 6 ≤ E.2.1) (hL : E.2.1 ≤ 3072) (hu : u.1 + 0 ≤ 600000 ∧ u.2 + 0 ≤ 7302250) (kk : ∀ N2 S2 X2, Inv N2 S2 X2 → Ev E m_lw_law 1771 [(0, .float 100), (1, .ref 0), (2, .ref 55), (3, .int x3)] [] X2 (u.1 + 0, u.2 + 0) Q) : Ev E m_lw_law 257 [(0, .float 100), (1, .ref 0), (2, .ref 55), (3, .int x3)] [] X u Q := by
  refine ev_aload_n (x := 0) (pc := 257) d_lw_law_257 rfl ?_
  refine ev_aload_nS (x := 100) (pc := 258) d_lw_law_258 rfl ?_
  refine ev_iload_n (x := x3) (pc := 259) d_lw_law_259 rfl ?_
  refine ev_iconst (v := 1) (pc := 260) d_lw_law_260 kc_i_1 ?_
  refine ev_iadd (pc := 261) d_lw_law_261 ?_
  refine ev_scld (pc := 262) d_lw_law_262 (sc_in (j := 1) hx rfl (by decide) hi hL) ?_
  refine ev_aload_nS (x := 100) (pc := 263) d_lw_law_263 rfl ?_
  refine ev_iload_n (x := x3) (pc := 264) d_lw_law_264 rfl ?_
  refine ev_iconst (v := 2) (pc := 265) d_lw_law_265 kc_i_2 ?_
  refine ev_iadd (pc := 266) d_lw_law_266 ?_
  refine ev_scld (pc := 267) d_lw_law_267 (sc_in (j := 2) hx rfl (by decide) hi hL) ?_
  refine ev_aload_nS (x := 100) (pc := 268) d_lw_law_268 rfl ?_
  refine ev_iload_n (x := x3) (pc := 269) d_lw_law_269 rfl ?_
  refine ev_iconst (v := 3) (pc := 270) d_lw_law_270 kc_i_3 ?_
  refine ev_iadd (pc := 271) d_lw_law_271 ?_
  refine ev_scld (pc := 272) d_lw_law_272 (sc_in (j := 3) hx rfl (by decide) hi hL) ?_
  refine ev_callV (z := m_ga_pipe) (as := [.int (E.2.2 (Int32.toNatClampNeg (x3 + 1))), .int (E.2.2 (Int32.toNatClampNeg (x3 + 2))), .int (E.2.2 (Int32.toNatClampNeg (x3 + 3)))]) (rest := []) (pc := 273) d_lw_law_273 (ly_at h.lay 0 rfl) lt13_11 rfl l_lw_18 i_ga_pipe v_ga_pipe o_ga_pipe rfl rfl (Nat.le_of_ble_eq_true rfl) rfl (Nat.le_of_ble_eq_true rfl) hu (hp h (E.2.2 (Int32.toNatClampNeg (x3 + 1))) (E.2.2 (Int32.toNatClampNeg (x3 + 2))) (E.2.2 (Int32.toNatClampNeg (x3 + 3)))) (fun r X1 hq => ?_)
  obtain ⟨v, S1, rfl, hL1, hev⟩ := hq
  show Ev E m_lw_law 276 [(0, .float 100), (1, .ref 0), (2, .ref 55), (3, .int x3)] [.int v] X1 (u.1 + 0, u.2 + 0) Q
  refine ev_aload_n (x := 55) (pc := 276) d_lw_law_276 rfl ?_
  refine ev_aload_nS (x := 100) (pc := 277) d_lw_law_277 rfl ?_
  refine ev_iload_n (x := x3) (pc := 278) d_lw_law_278 rfl ?_
  refine ev_iconst (v := 1) (pc := 279) d_lw_law_279 kc_i_1 ?_
  refine ev_iadd (pc := 280) d_lw_law_280 ?_
  refine ev_scld (pc := 281) d_lw_law_281 (sc_in (j := 1) hx rfl (by decide) hi hL) ?_
  refine ev_aload_nS (x := 100) (pc := 282) d_lw_law_282 rfl ?_
  refine ev_iload_n (x := x3) (pc := 283) d_lw_law_283 rfl ?_
  refine ev_iconst (v := 2) (pc := 284) d_lw_law_284 kc_i_2 ?_
  refine ev_iadd (pc := 285) d_lw_law_285 ?_
  refine ev_scld (pc := 286) d_lw_law_286 (sc_in (j := 2) hx rfl (by decide) hi hL) ?_
  refine ev_aload_nS (x := 100) (pc := 287) d_lw_law_287 rfl ?_
  refine ev_iload_n (x := x3) (pc := 288) d_lw_law_288 rfl ?_
  refine ev_iconst (v := 3) (pc := 289) d_lw_law_289 kc_i_3 ?_
  refine ev_iadd (pc := 290) d_lw_law_290 ?_
  refine ev_scld (pc := 291) d_lw_law_291 (sc_in (j := 3) hx rfl (by decide) hi hL) ?_
  refine ev_callV (z := m_mo_pipe) (as := [.int (E.2.2 (Int32.toNatClampNeg (x3 + 1))), .int (E.2.2 (Int32.toNatClampNeg (x3 + 2))), .int (E.2.2 (Int32.toNatClampNeg (x3 + 3)))]) (rest := [.int v]) (pc := 292) d_lw_law_292 (ly_at hL1 55 rfl) lt13_12 rfl l_lw_22 i_mo_pipe v_mo_pipe o_mo_pipe rfl rfl (Nat.le_of_ble_eq_true rfl) rfl (Nat.le_of_ble_eq_true rfl) hu hev (fun r X2 hq => ?_)
  obtain ⟨rfl, N2, h2⟩ := hq
  show Ev E m_lw_law 295 [(0, .float 100), (1, .ref 0), (2, .ref 55), (3, .int x3)] [.int v, .int v] X2 (u.1 + 0, u.2 + 0) Q
  exact ev_icmp_eq (pc := 295) (tgt := 1771) d_lw_law_295 (by decide) (fun _ => kk N2 S1 X2 h2) (fun c => absurd rfl c)
def PR_valve (E : gp_E) : Prop := ∀ {N : Nat → Nat} {S : gp_S} {X : gp_H}, Inv N S X → ∀ x1 x2 : Int32, Ev E m_ga_valve 0 [(0, .ref 0), (1, .int x1), (2, .int x2)] [] X (0, 0) (gp_two E m_mo_valve [(0, .ref 55), (1, .int x1), (2, .int x2)])
theorem lc_valve {E : gp_E} {N : Nat → Nat} {S : gp_S} {X : gp_H} {u : Nat × Nat} {Q : Option Value → gp_H → Prop} {i : Nat} {x3 : Int32} (hp : PR_valve E) (h : Inv N S X) (hx : x3 = nI i) (hi : i + 6 ≤ E.2.1) (hL : E.2.1 ≤ 3072) (hu : u.1 + 0 ≤ 600000 ∧ u.2 + 0 ≤ 7302250) (kk : ∀ N2 S2 X2, Inv N2 S2 X2 → Ev E m_lw_law 1771 [(0, .float 100), (1, .ref 0), (2, .ref 55), (3, .int x3)] [] X2 (u.1 + 0, u.2 + 0) Q) : Ev E m_lw_law 300 [(0, .float 100), (1, .ref 0), (2, .ref 55), (3, .int x3)] [] X u Q := by
  refine ev_aload_n (x := 0) (pc := 300) d_lw_law_300 rfl ?_
  refine ev_aload_nS (x := 100) (pc := 301) d_lw_law_301 rfl ?_
  refine ev_iload_n (x := x3) (pc := 302) d_lw_law_302 rfl ?_
  refine ev_iconst (v := 1) (pc := 303) d_lw_law_303 kc_i_1 ?_
  refine ev_iadd (pc := 304) d_lw_law_304 ?_
  refine ev_scld (pc := 305) d_lw_law_305 (sc_in (j := 1) hx rfl (by decide) hi hL) ?_
  refine ev_aload_nS (x := 100) (pc := 306) d_lw_law_306 rfl ?_
  refine ev_iload_n (x := x3) (pc := 307) d_lw_law_307 rfl ?_
  refine ev_iconst (v := 2) (pc := 308) d_lw_law_308 kc_i_2 ?_
  refine ev_iadd (pc := 309) d_lw_law_309 ?_
  refine ev_scld (pc := 310) d_lw_law_310 (sc_in (j := 2) hx rfl (by decide) hi hL) ?_
  refine ev_callV (z := m_ga_valve) (as := [.int (E.2.2 (Int32.toNatClampNeg (x3 + 1))), .int (E.2.2 (Int32.toNatClampNeg (x3 + 2)))]) (rest := []) (pc := 311) d_lw_law_311 (ly_at h.lay 0 rfl) lt13_11 rfl l_lw_23 i_ga_valve v_ga_valve o_ga_valve rfl rfl (Nat.le_of_ble_eq_true rfl) rfl (Nat.le_of_ble_eq_true rfl) hu (hp h (E.2.2 (Int32.toNatClampNeg (x3 + 1))) (E.2.2 (Int32.toNatClampNeg (x3 + 2)))) (fun r X1 hq => ?_)
  obtain ⟨v, S1, rfl, hL1, hev⟩ := hq
  show Ev E m_lw_law 314 [(0, .float 100), (1, .ref 0), (2, .ref 55), (3, .int x3)] [.int v] X1 (u.1 + 0, u.2 + 0) Q
  refine ev_aload_n (x := 55) (pc := 314) d_lw_law_314 rfl ?_
  refine ev_aload_nS (x := 100) (pc := 315) d_lw_law_315 rfl ?_
  refine ev_iload_n (x := x3) (pc := 316) d_lw_law_316 rfl ?_
  refine ev_iconst (v := 1) (pc := 317) d_lw_law_317 kc_i_1 ?_
  refine ev_iadd (pc := 318) d_lw_law_318 ?_
  refine ev_scld (pc := 319) d_lw_law_319 (sc_in (j := 1) hx rfl (by decide) hi hL) ?_
  refine ev_aload_nS (x := 100) (pc := 320) d_lw_law_320 rfl ?_
  refine ev_iload_n (x := x3) (pc := 321) d_lw_law_321 rfl ?_
  refine ev_iconst (v := 2) (pc := 322) d_lw_law_322 kc_i_2 ?_
  refine ev_iadd (pc := 323) d_lw_law_323 ?_
  refine ev_scld (pc := 324) d_lw_law_324 (sc_in (j := 2) hx rfl (by decide) hi hL) ?_
  refine ev_callV (z := m_mo_valve) (as := [.int (E.2.2 (Int32.toNatClampNeg (x3 + 1))), .int (E.2.2 (Int32.toNatClampNeg (x3 + 2)))]) (rest := [.int v]) (pc := 325) d_lw_law_325 (ly_at hL1 55 rfl) lt13_12 rfl l_lw_27 i_mo_valve v_mo_valve o_mo_valve rfl rfl (Nat.le_of_ble_eq_true rfl) rfl (Nat.le_of_ble_eq_true rfl) hu hev (fun r X2 hq => ?_)
  obtain ⟨rfl, N2, h2⟩ := hq
  show Ev E m_lw_law 328 [(0, .float 100), (1, .ref 0), (2, .ref 55), (3, .int x3)] [.int v, .int v] X2 (u.1 + 0, u.2 + 0) Q
  exact ev_icmp_eq (pc := 328) (tgt := 1771) d_lw_law_328 (by decide) (fun _ => kk N2 S1 X2 h2) (fun c => absurd rfl c)
def PR_lost (E : gp_E) : Prop := ∀ {N : Nat → Nat} {S : gp_S} {X : gp_H}, Inv N S X → ∀ x1 : Int32, Ev E m_ga_lost 0 [(0, .ref 0), (1, .int x1)] [] X (0, 0) (gp_two E m_mo_lost [(0, .ref 55), (1, .int x1)])
theorem lc_lost {E : gp_E} {N : Nat → Nat} {S : gp_S} {X : gp_H} {u : Nat × Nat} {Q : Option Value → gp_H → Prop} {i : Nat} {x3 : Int32} (hp : PR_lost E) (h : Inv N S X) (hx : x3 = nI i) (hi : i + 6 ≤ E.2.1) (hL : E.2.1 ≤ 3072) (hu : u.1 + 0 ≤ 600000 ∧ u.2 + 0 ≤ 7302250) (kk : ∀ N2 S2 X2, Inv N2 S2 X2 → Ev E m_lw_law 1771 [(0, .float 100), (1, .ref 0), (2, .ref 55), (3, .int x3)] [] X2 (u.1 + 0, u.2 + 0) Q) : Ev E m_lw_law 333 [(0, .float 100), (1, .ref 0), (2, .ref 55), (3, .int x3)] [] X u Q := by
  refine ev_aload_n (x := 0) (pc := 333) d_lw_law_333 rfl ?_
  refine ev_aload_nS (x := 100) (pc := 334) d_lw_law_334 rfl ?_
  refine ev_iload_n (x := x3) (pc := 335) d_lw_law_335 rfl ?_
  refine ev_iconst (v := 1) (pc := 336) d_lw_law_336 kc_i_1 ?_
  refine ev_iadd (pc := 337) d_lw_law_337 ?_
  refine ev_scld (pc := 338) d_lw_law_338 (sc_in (j := 1) hx rfl (by decide) hi hL) ?_
  refine ev_callV (z := m_ga_lost) (as := [.int (E.2.2 (Int32.toNatClampNeg (x3 + 1)))]) (rest := []) (pc := 339) d_lw_law_339 (ly_at h.lay 0 rfl) lt13_11 rfl l_lw_28 i_ga_lost v_ga_lost o_ga_lost rfl rfl (Nat.le_of_ble_eq_true rfl) rfl (Nat.le_of_ble_eq_true rfl) hu (hp h (E.2.2 (Int32.toNatClampNeg (x3 + 1)))) (fun r X1 hq => ?_)
  obtain ⟨v, S1, rfl, hL1, hev⟩ := hq
  show Ev E m_lw_law 342 [(0, .float 100), (1, .ref 0), (2, .ref 55), (3, .int x3)] [.int v] X1 (u.1 + 0, u.2 + 0) Q
  refine ev_aload_n (x := 55) (pc := 342) d_lw_law_342 rfl ?_
  refine ev_aload_nS (x := 100) (pc := 343) d_lw_law_343 rfl ?_
  refine ev_iload_n (x := x3) (pc := 344) d_lw_law_344 rfl ?_
  refine ev_iconst (v := 1) (pc := 345) d_lw_law_345 kc_i_1 ?_
  refine ev_iadd (pc := 346) d_lw_law_346 ?_
  refine ev_scld (pc := 347) d_lw_law_347 (sc_in (j := 1) hx rfl (by decide) hi hL) ?_
  refine ev_callV (z := m_mo_lost) (as := [.int (E.2.2 (Int32.toNatClampNeg (x3 + 1)))]) (rest := [.int v]) (pc := 348) d_lw_law_348 (ly_at hL1 55 rfl) lt13_12 rfl l_lw_32 i_mo_lost v_mo_lost o_mo_lost rfl rfl (Nat.le_of_ble_eq_true rfl) rfl (Nat.le_of_ble_eq_true rfl) hu hev (fun r X2 hq => ?_)
  obtain ⟨rfl, N2, h2⟩ := hq
  show Ev E m_lw_law 351 [(0, .float 100), (1, .ref 0), (2, .ref 55), (3, .int x3)] [.int v, .int v] X2 (u.1 + 0, u.2 + 0) Q
  exact ev_icmp_eq (pc := 351) (tgt := 1771) d_lw_law_351 (by decide) (fun _ => kk N2 S1 X2 h2) (fun c => absurd rfl c)
def PR_pipeOf (E : gp_E) : Prop := ∀ {N : Nat → Nat} {S : gp_S} {X : gp_H}, Inv N S X → ∀ x1 x2 : Int32, Ev E m_ga_pipeOf 0 [(0, .ref 0), (1, .int x1), (2, .int x2)] [] X (0, 0) (gp_two E m_mo_pipeOf [(0, .ref 55), (1, .int x1), (2, .int x2)])
theorem lc_pipeOf {E : gp_E} {N : Nat → Nat} {S : gp_S} {X : gp_H} {u : Nat × Nat} {Q : Option Value → gp_H → Prop} {i : Nat} {x3 : Int32} (hp : PR_pipeOf E) (h : Inv N S X) (hx : x3 = nI i) (hi : i + 6 ≤ E.2.1) (hL : E.2.1 ≤ 3072) (hu : u.1 + 0 ≤ 600000 ∧ u.2 + 0 ≤ 7302250) (kk : ∀ N2 S2 X2, Inv N2 S2 X2 → Ev E m_lw_law 1771 [(0, .float 100), (1, .ref 0), (2, .ref 55), (3, .int x3)] [] X2 (u.1 + 0, u.2 + 0) Q) : Ev E m_lw_law 356 [(0, .float 100), (1, .ref 0), (2, .ref 55), (3, .int x3)] [] X u Q := by
  refine ev_aload_n (x := 0) (pc := 356) d_lw_law_356 rfl ?_
  refine ev_aload_nS (x := 100) (pc := 357) d_lw_law_357 rfl ?_
  refine ev_iload_n (x := x3) (pc := 358) d_lw_law_358 rfl ?_
  refine ev_iconst (v := 1) (pc := 359) d_lw_law_359 kc_i_1 ?_
  refine ev_iadd (pc := 360) d_lw_law_360 ?_
  refine ev_scld (pc := 361) d_lw_law_361 (sc_in (j := 1) hx rfl (by decide) hi hL) ?_
  refine ev_aload_nS (x := 100) (pc := 362) d_lw_law_362 rfl ?_
  refine ev_iload_n (x := x3) (pc := 363) d_lw_law_363 rfl ?_
  refine ev_iconst (v := 2) (pc := 364) d_lw_law_364 kc_i_2 ?_
  refine ev_iadd (pc := 365) d_lw_law_365 ?_
  refine ev_scld (pc := 366) d_lw_law_366 (sc_in (j := 2) hx rfl (by decide) hi hL) ?_
  refine ev_callV (z := m_ga_pipeOf) (as := [.int (E.2.2 (Int32.toNatClampNeg (x3 + 1))), .int (E.2.2 (Int32.toNatClampNeg (x3 + 2)))]) (rest := []) (pc := 367) d_lw_law_367 (ly_at h.lay 0 rfl) lt13_11 rfl l_lw_33 i_ga_pipeOf v_ga_pipeOf o_ga_pipeOf rfl rfl (Nat.le_of_ble_eq_true rfl) rfl (Nat.le_of_ble_eq_true rfl) hu (hp h (E.2.2 (Int32.toNatClampNeg (x3 + 1))) (E.2.2 (Int32.toNatClampNeg (x3 + 2)))) (fun r X1 hq => ?_)
  obtain ⟨v, S1, rfl, hL1, hev⟩ := hq
  show Ev E m_lw_law 370 [(0, .float 100), (1, .ref 0), (2, .ref 55), (3, .int x3)] [.int v] X1 (u.1 + 0, u.2 + 0) Q
  refine ev_aload_n (x := 55) (pc := 370) d_lw_law_370 rfl ?_
  refine ev_aload_nS (x := 100) (pc := 371) d_lw_law_371 rfl ?_
  refine ev_iload_n (x := x3) (pc := 372) d_lw_law_372 rfl ?_
  refine ev_iconst (v := 1) (pc := 373) d_lw_law_373 kc_i_1 ?_
  refine ev_iadd (pc := 374) d_lw_law_374 ?_
  refine ev_scld (pc := 375) d_lw_law_375 (sc_in (j := 1) hx rfl (by decide) hi hL) ?_
  refine ev_aload_nS (x := 100) (pc := 376) d_lw_law_376 rfl ?_
  refine ev_iload_n (x := x3) (pc := 377) d_lw_law_377 rfl ?_
  refine ev_iconst (v := 2) (pc := 378) d_lw_law_378 kc_i_2 ?_
  refine ev_iadd (pc := 379) d_lw_law_379 ?_
  refine ev_scld (pc := 380) d_lw_law_380 (sc_in (j := 2) hx rfl (by decide) hi hL) ?_
  refine ev_callV (z := m_mo_pipeOf) (as := [.int (E.2.2 (Int32.toNatClampNeg (x3 + 1))), .int (E.2.2 (Int32.toNatClampNeg (x3 + 2)))]) (rest := [.int v]) (pc := 381) d_lw_law_381 (ly_at hL1 55 rfl) lt13_12 rfl l_lw_36 i_mo_pipeOf v_mo_pipeOf o_mo_pipeOf rfl rfl (Nat.le_of_ble_eq_true rfl) rfl (Nat.le_of_ble_eq_true rfl) hu hev (fun r X2 hq => ?_)
  obtain ⟨rfl, N2, h2⟩ := hq
  show Ev E m_lw_law 384 [(0, .float 100), (1, .ref 0), (2, .ref 55), (3, .int x3)] [.int v, .int v] X2 (u.1 + 0, u.2 + 0) Q
  exact ev_icmp_eq (pc := 384) (tgt := 1771) d_lw_law_384 (by decide) (fun _ => kk N2 S1 X2 h2) (fun c => absurd rfl c)
def PR_works (E : gp_E) : Prop := ∀ {N : Nat → Nat} {S : gp_S} {X : gp_H}, Inv N S X → ∀ x1 x2 x3 : Int32, Ev E m_ga_works 0 [(0, .ref 0), (1, .int x1), (2, .int x2), (3, .int x3)] [] X (0, 0) (gp_two E m_mo_works [(0, .ref 55), (1, .int x1), (2, .int x2), (3, .int x3)])
theorem lc_works {E : gp_E} {N : Nat → Nat} {S : gp_S} {X : gp_H} {u : Nat × Nat} {Q : Option Value → gp_H → Prop} {i : Nat} {x3 : Int32} (hp : PR_works E) (h : Inv N S X) (hx : x3 = nI i) (hi : i + 6 ≤ E.2.1) (hL : E.2.1 ≤ 3072) (hu : u.1 + 0 ≤ 600000 ∧ u.2 + 0 ≤ 7302250) (kk : ∀ N2 S2 X2, Inv N2 S2 X2 → Ev E m_lw_law 1771 [(0, .float 100), (1, .ref 0), (2, .ref 55), (3, .int x3)] [] X2 (u.1 + 0, u.2 + 0) Q) : Ev E m_lw_law 389 [(0, .float 100), (1, .ref 0), (2, .ref 55), (3, .int x3)] [] X u Q := by
  refine ev_aload_n (x := 0) (pc := 389) d_lw_law_389 rfl ?_
  refine ev_aload_nS (x := 100) (pc := 390) d_lw_law_390 rfl ?_
  refine ev_iload_n (x := x3) (pc := 391) d_lw_law_391 rfl ?_
  refine ev_iconst (v := 1) (pc := 392) d_lw_law_392 kc_i_1 ?_
  refine ev_iadd (pc := 393) d_lw_law_393 ?_
  refine ev_scld (pc := 394) d_lw_law_394 (sc_in (j := 1) hx rfl (by decide) hi hL) ?_
  refine ev_aload_nS (x := 100) (pc := 395) d_lw_law_395 rfl ?_
  refine ev_iload_n (x := x3) (pc := 396) d_lw_law_396 rfl ?_
  refine ev_iconst (v := 2) (pc := 397) d_lw_law_397 kc_i_2 ?_
  refine ev_iadd (pc := 398) d_lw_law_398 ?_
  refine ev_scld (pc := 399) d_lw_law_399 (sc_in (j := 2) hx rfl (by decide) hi hL) ?_
  refine ev_aload_nS (x := 100) (pc := 400) d_lw_law_400 rfl ?_
  refine ev_iload_n (x := x3) (pc := 401) d_lw_law_401 rfl ?_
  refine ev_iconst (v := 3) (pc := 402) d_lw_law_402 kc_i_3 ?_
  refine ev_iadd (pc := 403) d_lw_law_403 ?_
  refine ev_scld (pc := 404) d_lw_law_404 (sc_in (j := 3) hx rfl (by decide) hi hL) ?_
  refine ev_callV (z := m_ga_works) (as := [.int (E.2.2 (Int32.toNatClampNeg (x3 + 1))), .int (E.2.2 (Int32.toNatClampNeg (x3 + 2))), .int (E.2.2 (Int32.toNatClampNeg (x3 + 3)))]) (rest := []) (pc := 405) d_lw_law_405 (ly_at h.lay 0 rfl) lt13_11 rfl l_lw_37 i_ga_works v_ga_works o_ga_works rfl rfl (Nat.le_of_ble_eq_true rfl) rfl (Nat.le_of_ble_eq_true rfl) hu (hp h (E.2.2 (Int32.toNatClampNeg (x3 + 1))) (E.2.2 (Int32.toNatClampNeg (x3 + 2))) (E.2.2 (Int32.toNatClampNeg (x3 + 3)))) (fun r X1 hq => ?_)
  obtain ⟨v, S1, rfl, hL1, hev⟩ := hq
  show Ev E m_lw_law 408 [(0, .float 100), (1, .ref 0), (2, .ref 55), (3, .int x3)] [.int v] X1 (u.1 + 0, u.2 + 0) Q
  refine ev_aload_n (x := 55) (pc := 408) d_lw_law_408 rfl ?_
  refine ev_aload_nS (x := 100) (pc := 409) d_lw_law_409 rfl ?_
  refine ev_iload_n (x := x3) (pc := 410) d_lw_law_410 rfl ?_
  refine ev_iconst (v := 1) (pc := 411) d_lw_law_411 kc_i_1 ?_
  refine ev_iadd (pc := 412) d_lw_law_412 ?_
  refine ev_scld (pc := 413) d_lw_law_413 (sc_in (j := 1) hx rfl (by decide) hi hL) ?_
  refine ev_aload_nS (x := 100) (pc := 414) d_lw_law_414 rfl ?_
  refine ev_iload_n (x := x3) (pc := 415) d_lw_law_415 rfl ?_
  refine ev_iconst (v := 2) (pc := 416) d_lw_law_416 kc_i_2 ?_
  refine ev_iadd (pc := 417) d_lw_law_417 ?_
  refine ev_scld (pc := 418) d_lw_law_418 (sc_in (j := 2) hx rfl (by decide) hi hL) ?_
  refine ev_aload_nS (x := 100) (pc := 419) d_lw_law_419 rfl ?_
  refine ev_iload_n (x := x3) (pc := 420) d_lw_law_420 rfl ?_
  refine ev_iconst (v := 3) (pc := 421) d_lw_law_421 kc_i_3 ?_
  refine ev_iadd (pc := 422) d_lw_law_422 ?_
  refine ev_scld (pc := 423) d_lw_law_423 (sc_in (j := 3) hx rfl (by decide) hi hL) ?_
  refine ev_callV (z := m_mo_works) (as := [.int (E.2.2 (Int32.toNatClampNeg (x3 + 1))), .int (E.2.2 (Int32.toNatClampNeg (x3 + 2))), .int (E.2.2 (Int32.toNatClampNeg (x3 + 3)))]) (rest := [.int v]) (pc := 424) d_lw_law_424 (ly_at hL1 55 rfl) lt13_12 rfl l_lw_40 i_mo_works v_mo_works o_mo_works rfl rfl (Nat.le_of_ble_eq_true rfl) rfl (Nat.le_of_ble_eq_true rfl) hu hev (fun r X2 hq => ?_)
  obtain ⟨rfl, N2, h2⟩ := hq
  show Ev E m_lw_law 427 [(0, .float 100), (1, .ref 0), (2, .ref 55), (3, .int x3)] [.int v, .int v] X2 (u.1 + 0, u.2 + 0) Q
  exact ev_icmp_eq (pc := 427) (tgt := 1771) d_lw_law_427 (by decide) (fun _ => kk N2 S1 X2 h2) (fun c => absurd rfl c)
def PR_close (E : gp_E) : Prop := ∀ {N : Nat → Nat} {S : gp_S} {X : gp_H}, Inv N S X → ∀ x1 : Int32, Ev E m_ga_close 0 [(0, .ref 0), (1, .int x1)] [] X (0, 0) (gp_two E m_mo_close [(0, .ref 55), (1, .int x1)])
theorem lc_close {E : gp_E} {N : Nat → Nat} {S : gp_S} {X : gp_H} {u : Nat × Nat} {Q : Option Value → gp_H → Prop} {i : Nat} {x3 : Int32} (hp : PR_close E) (h : Inv N S X) (hx : x3 = nI i) (hi : i + 6 ≤ E.2.1) (hL : E.2.1 ≤ 3072) (hu : u.1 + 0 ≤ 600000 ∧ u.2 + 0 ≤ 7302250) (kk : ∀ N2 S2 X2, Inv N2 S2 X2 → Ev E m_lw_law 1771 [(0, .float 100), (1, .ref 0), (2, .ref 55), (3, .int x3)] [] X2 (u.1 + 0, u.2 + 0) Q) : Ev E m_lw_law 432 [(0, .float 100), (1, .ref 0), (2, .ref 55), (3, .int x3)] [] X u Q := by
  refine ev_aload_n (x := 0) (pc := 432) d_lw_law_432 rfl ?_
  refine ev_aload_nS (x := 100) (pc := 433) d_lw_law_433 rfl ?_
  refine ev_iload_n (x := x3) (pc := 434) d_lw_law_434 rfl ?_
  refine ev_iconst (v := 1) (pc := 435) d_lw_law_435 kc_i_1 ?_
  refine ev_iadd (pc := 436) d_lw_law_436 ?_
  refine ev_scld (pc := 437) d_lw_law_437 (sc_in (j := 1) hx rfl (by decide) hi hL) ?_
  refine ev_callV (z := m_ga_close) (as := [.int (E.2.2 (Int32.toNatClampNeg (x3 + 1)))]) (rest := []) (pc := 438) d_lw_law_438 (ly_at h.lay 0 rfl) lt13_11 rfl l_lw_41 i_ga_close v_ga_close o_ga_close rfl rfl (Nat.le_of_ble_eq_true rfl) rfl (Nat.le_of_ble_eq_true rfl) hu (hp h (E.2.2 (Int32.toNatClampNeg (x3 + 1)))) (fun r X1 hq => ?_)
  obtain ⟨v, S1, rfl, hL1, hev⟩ := hq
  show Ev E m_lw_law 441 [(0, .float 100), (1, .ref 0), (2, .ref 55), (3, .int x3)] [.int v] X1 (u.1 + 0, u.2 + 0) Q
  refine ev_aload_n (x := 55) (pc := 441) d_lw_law_441 rfl ?_
  refine ev_aload_nS (x := 100) (pc := 442) d_lw_law_442 rfl ?_
  refine ev_iload_n (x := x3) (pc := 443) d_lw_law_443 rfl ?_
  refine ev_iconst (v := 1) (pc := 444) d_lw_law_444 kc_i_1 ?_
  refine ev_iadd (pc := 445) d_lw_law_445 ?_
  refine ev_scld (pc := 446) d_lw_law_446 (sc_in (j := 1) hx rfl (by decide) hi hL) ?_
  refine ev_callV (z := m_mo_close) (as := [.int (E.2.2 (Int32.toNatClampNeg (x3 + 1)))]) (rest := [.int v]) (pc := 447) d_lw_law_447 (ly_at hL1 55 rfl) lt13_12 rfl l_lw_44 i_mo_close v_mo_close o_mo_close rfl rfl (Nat.le_of_ble_eq_true rfl) rfl (Nat.le_of_ble_eq_true rfl) hu hev (fun r X2 hq => ?_)
  obtain ⟨rfl, N2, h2⟩ := hq
  show Ev E m_lw_law 450 [(0, .float 100), (1, .ref 0), (2, .ref 55), (3, .int x3)] [.int v, .int v] X2 (u.1 + 0, u.2 + 0) Q
  exact ev_icmp_eq (pc := 450) (tgt := 1771) d_lw_law_450 (by decide) (fun _ => kk N2 S1 X2 h2) (fun c => absurd rfl c)
def PR_work (E : gp_E) : Prop := ∀ {N : Nat → Nat} {S : gp_S} {X : gp_H}, Inv N S X → ∀ x1 x2 : Int32, Ev E m_ga_work 0 [(0, .ref 0), (1, .int x1), (2, .int x2)] [] X (0, 0) (gp_two E m_mo_work [(0, .ref 55), (1, .int x1), (2, .int x2)])
theorem lc_work {E : gp_E} {N : Nat → Nat} {S : gp_S} {X : gp_H} {u : Nat × Nat} {Q : Option Value → gp_H → Prop} {i : Nat} {x3 : Int32} (hp : PR_work E) (h : Inv N S X) (hx : x3 = nI i) (hi : i + 6 ≤ E.2.1) (hL : E.2.1 ≤ 3072) (hu : u.1 + 0 ≤ 600000 ∧ u.2 + 0 ≤ 7302250) (kk : ∀ N2 S2 X2, Inv N2 S2 X2 → Ev E m_lw_law 1771 [(0, .float 100), (1, .ref 0), (2, .ref 55), (3, .int x3)] [] X2 (u.1 + 0, u.2 + 0) Q) : Ev E m_lw_law 455 [(0, .float 100), (1, .ref 0), (2, .ref 55), (3, .int x3)] [] X u Q := by
  refine ev_aload_n (x := 0) (pc := 455) d_lw_law_455 rfl ?_
  refine ev_aload_nS (x := 100) (pc := 456) d_lw_law_456 rfl ?_
  refine ev_iload_n (x := x3) (pc := 457) d_lw_law_457 rfl ?_
  refine ev_iconst (v := 1) (pc := 458) d_lw_law_458 kc_i_1 ?_
  refine ev_iadd (pc := 459) d_lw_law_459 ?_
  refine ev_scld (pc := 460) d_lw_law_460 (sc_in (j := 1) hx rfl (by decide) hi hL) ?_
  refine ev_aload_nS (x := 100) (pc := 461) d_lw_law_461 rfl ?_
  refine ev_iload_n (x := x3) (pc := 462) d_lw_law_462 rfl ?_
  refine ev_iconst (v := 2) (pc := 463) d_lw_law_463 kc_i_2 ?_
  refine ev_iadd (pc := 464) d_lw_law_464 ?_
  refine ev_scld (pc := 465) d_lw_law_465 (sc_in (j := 2) hx rfl (by decide) hi hL) ?_
  refine ev_callV (z := m_ga_work) (as := [.int (E.2.2 (Int32.toNatClampNeg (x3 + 1))), .int (E.2.2 (Int32.toNatClampNeg (x3 + 2)))]) (rest := []) (pc := 466) d_lw_law_466 (ly_at h.lay 0 rfl) lt13_11 rfl l_lw_45 i_ga_work v_ga_work o_ga_work rfl rfl (Nat.le_of_ble_eq_true rfl) rfl (Nat.le_of_ble_eq_true rfl) hu (hp h (E.2.2 (Int32.toNatClampNeg (x3 + 1))) (E.2.2 (Int32.toNatClampNeg (x3 + 2)))) (fun r X1 hq => ?_)
  obtain ⟨v, S1, rfl, hL1, hev⟩ := hq
  show Ev E m_lw_law 469 [(0, .float 100), (1, .ref 0), (2, .ref 55), (3, .int x3)] [.int v] X1 (u.1 + 0, u.2 + 0) Q
  refine ev_aload_n (x := 55) (pc := 469) d_lw_law_469 rfl ?_
  refine ev_aload_nS (x := 100) (pc := 470) d_lw_law_470 rfl ?_
  refine ev_iload_n (x := x3) (pc := 471) d_lw_law_471 rfl ?_
  refine ev_iconst (v := 1) (pc := 472) d_lw_law_472 kc_i_1 ?_
  refine ev_iadd (pc := 473) d_lw_law_473 ?_
  refine ev_scld (pc := 474) d_lw_law_474 (sc_in (j := 1) hx rfl (by decide) hi hL) ?_
  refine ev_aload_nS (x := 100) (pc := 475) d_lw_law_475 rfl ?_
  refine ev_iload_n (x := x3) (pc := 476) d_lw_law_476 rfl ?_
  refine ev_iconst (v := 2) (pc := 477) d_lw_law_477 kc_i_2 ?_
  refine ev_iadd (pc := 478) d_lw_law_478 ?_
  refine ev_scld (pc := 479) d_lw_law_479 (sc_in (j := 2) hx rfl (by decide) hi hL) ?_
  refine ev_callV (z := m_mo_work) (as := [.int (E.2.2 (Int32.toNatClampNeg (x3 + 1))), .int (E.2.2 (Int32.toNatClampNeg (x3 + 2)))]) (rest := [.int v]) (pc := 480) d_lw_law_480 (ly_at hL1 55 rfl) lt13_12 rfl l_lw_48 i_mo_work v_mo_work o_mo_work rfl rfl (Nat.le_of_ble_eq_true rfl) rfl (Nat.le_of_ble_eq_true rfl) hu hev (fun r X2 hq => ?_)
  obtain ⟨rfl, N2, h2⟩ := hq
  show Ev E m_lw_law 483 [(0, .float 100), (1, .ref 0), (2, .ref 55), (3, .int x3)] [.int v, .int v] X2 (u.1 + 0, u.2 + 0) Q
  exact ev_icmp_eq (pc := 483) (tgt := 1771) d_lw_law_483 (by decide) (fun _ => kk N2 S1 X2 h2) (fun c => absurd rfl c)
def PR_terminal (E : gp_E) : Prop := ∀ {N : Nat → Nat} {S : gp_S} {X : gp_H}, Inv N S X → ∀ x1 : Int32, Ev E m_ga_terminal 0 [(0, .ref 0), (1, .int x1)] [] X (0, 0) (gp_two E m_mo_terminal [(0, .ref 55), (1, .int x1)])
theorem lc_terminal {E : gp_E} {N : Nat → Nat} {S : gp_S} {X : gp_H} {u : Nat × Nat} {Q : Option Value → gp_H → Prop} {i : Nat} {x3 : Int32} (hp : PR_terminal E) (h : Inv N S X) (hx : x3 = nI i) (hi : i + 6 ≤ E.2.1) (hL : E.2.1 ≤ 3072) (hu : u.1 + 0 ≤ 600000 ∧ u.2 + 0 ≤ 7302250) (kk : ∀ N2 S2 X2, Inv N2 S2 X2 → Ev E m_lw_law 1771 [(0, .float 100), (1, .ref 0), (2, .ref 55), (3, .int x3)] [] X2 (u.1 + 0, u.2 + 0) Q) : Ev E m_lw_law 488 [(0, .float 100), (1, .ref 0), (2, .ref 55), (3, .int x3)] [] X u Q := by
  refine ev_aload_n (x := 0) (pc := 488) d_lw_law_488 rfl ?_
  refine ev_aload_nS (x := 100) (pc := 489) d_lw_law_489 rfl ?_
  refine ev_iload_n (x := x3) (pc := 490) d_lw_law_490 rfl ?_
  refine ev_iconst (v := 1) (pc := 491) d_lw_law_491 kc_i_1 ?_
  refine ev_iadd (pc := 492) d_lw_law_492 ?_
  refine ev_scld (pc := 493) d_lw_law_493 (sc_in (j := 1) hx rfl (by decide) hi hL) ?_
  refine ev_callV (z := m_ga_terminal) (as := [.int (E.2.2 (Int32.toNatClampNeg (x3 + 1)))]) (rest := []) (pc := 494) d_lw_law_494 (ly_at h.lay 0 rfl) lt13_11 rfl l_lw_49 i_ga_terminal v_ga_terminal o_ga_terminal rfl rfl (Nat.le_of_ble_eq_true rfl) rfl (Nat.le_of_ble_eq_true rfl) hu (hp h (E.2.2 (Int32.toNatClampNeg (x3 + 1)))) (fun r X1 hq => ?_)
  obtain ⟨v, S1, rfl, hL1, hev⟩ := hq
  show Ev E m_lw_law 497 [(0, .float 100), (1, .ref 0), (2, .ref 55), (3, .int x3)] [.int v] X1 (u.1 + 0, u.2 + 0) Q
  refine ev_aload_n (x := 55) (pc := 497) d_lw_law_497 rfl ?_
  refine ev_aload_nS (x := 100) (pc := 498) d_lw_law_498 rfl ?_
  refine ev_iload_n (x := x3) (pc := 499) d_lw_law_499 rfl ?_
  refine ev_iconst (v := 1) (pc := 500) d_lw_law_500 kc_i_1 ?_
  refine ev_iadd (pc := 501) d_lw_law_501 ?_
  refine ev_scld (pc := 502) d_lw_law_502 (sc_in (j := 1) hx rfl (by decide) hi hL) ?_
  refine ev_callV (z := m_mo_terminal) (as := [.int (E.2.2 (Int32.toNatClampNeg (x3 + 1)))]) (rest := [.int v]) (pc := 503) d_lw_law_503 (ly_at hL1 55 rfl) lt13_12 rfl l_lw_52 i_mo_terminal v_mo_terminal o_mo_terminal rfl rfl (Nat.le_of_ble_eq_true rfl) rfl (Nat.le_of_ble_eq_true rfl) hu hev (fun r X2 hq => ?_)
  obtain ⟨rfl, N2, h2⟩ := hq
  show Ev E m_lw_law 506 [(0, .float 100), (1, .ref 0), (2, .ref 55), (3, .int x3)] [.int v, .int v] X2 (u.1 + 0, u.2 + 0) Q
  exact ev_icmp_eq (pc := 506) (tgt := 1771) d_lw_law_506 (by decide) (fun _ => kk N2 S1 X2 h2) (fun c => absurd rfl c)
def PR_gas (E : gp_E) : Prop := ∀ {N : Nat → Nat} {S : gp_S} {X : gp_H}, Inv N S X → ∀ x1 : Int32, Ev E m_ga_gas 0 [(0, .ref 0), (1, .int x1)] [] X (0, 0) (gp_two E m_mo_gas [(0, .ref 55), (1, .int x1)])
theorem lc_gas {E : gp_E} {N : Nat → Nat} {S : gp_S} {X : gp_H} {u : Nat × Nat} {Q : Option Value → gp_H → Prop} {i : Nat} {x3 : Int32} (hp : PR_gas E) (h : Inv N S X) (hx : x3 = nI i) (hi : i + 6 ≤ E.2.1) (hL : E.2.1 ≤ 3072) (hu : u.1 + 0 ≤ 600000 ∧ u.2 + 0 ≤ 7302250) (kk : ∀ N2 S2 X2, Inv N2 S2 X2 → Ev E m_lw_law 1771 [(0, .float 100), (1, .ref 0), (2, .ref 55), (3, .int x3)] [] X2 (u.1 + 0, u.2 + 0) Q) : Ev E m_lw_law 511 [(0, .float 100), (1, .ref 0), (2, .ref 55), (3, .int x3)] [] X u Q := by
  refine ev_aload_n (x := 0) (pc := 511) d_lw_law_511 rfl ?_
  refine ev_aload_nS (x := 100) (pc := 512) d_lw_law_512 rfl ?_
  refine ev_iload_n (x := x3) (pc := 513) d_lw_law_513 rfl ?_
  refine ev_iconst (v := 1) (pc := 514) d_lw_law_514 kc_i_1 ?_
  refine ev_iadd (pc := 515) d_lw_law_515 ?_
  refine ev_scld (pc := 516) d_lw_law_516 (sc_in (j := 1) hx rfl (by decide) hi hL) ?_
  refine ev_callV (z := m_ga_gas) (as := [.int (E.2.2 (Int32.toNatClampNeg (x3 + 1)))]) (rest := []) (pc := 517) d_lw_law_517 (ly_at h.lay 0 rfl) lt13_11 rfl l_lw_53 i_ga_gas v_ga_gas o_ga_gas rfl rfl (Nat.le_of_ble_eq_true rfl) rfl (Nat.le_of_ble_eq_true rfl) hu (hp h (E.2.2 (Int32.toNatClampNeg (x3 + 1)))) (fun r X1 hq => ?_)
  obtain ⟨v, S1, rfl, hL1, hev⟩ := hq
  show Ev E m_lw_law 520 [(0, .float 100), (1, .ref 0), (2, .ref 55), (3, .int x3)] [.int v] X1 (u.1 + 0, u.2 + 0) Q
  refine ev_aload_n (x := 55) (pc := 520) d_lw_law_520 rfl ?_
  refine ev_aload_nS (x := 100) (pc := 521) d_lw_law_521 rfl ?_
  refine ev_iload_n (x := x3) (pc := 522) d_lw_law_522 rfl ?_
  refine ev_iconst (v := 1) (pc := 523) d_lw_law_523 kc_i_1 ?_
  refine ev_iadd (pc := 524) d_lw_law_524 ?_
  refine ev_scld (pc := 525) d_lw_law_525 (sc_in (j := 1) hx rfl (by decide) hi hL) ?_
  refine ev_callV (z := m_mo_gas) (as := [.int (E.2.2 (Int32.toNatClampNeg (x3 + 1)))]) (rest := [.int v]) (pc := 526) d_lw_law_526 (ly_at hL1 55 rfl) lt13_12 rfl l_lw_56 i_mo_gas v_mo_gas o_mo_gas rfl rfl (Nat.le_of_ble_eq_true rfl) rfl (Nat.le_of_ble_eq_true rfl) hu hev (fun r X2 hq => ?_)
  obtain ⟨rfl, N2, h2⟩ := hq
  show Ev E m_lw_law 529 [(0, .float 100), (1, .ref 0), (2, .ref 55), (3, .int x3)] [.int v, .int v] X2 (u.1 + 0, u.2 + 0) Q
  exact ev_icmp_eq (pc := 529) (tgt := 1771) d_lw_law_529 (by decide) (fun _ => kk N2 S1 X2 h2) (fun c => absurd rfl c)
def PR_area (E : gp_E) : Prop := ∀ {N : Nat → Nat} {S : gp_S} {X : gp_H}, Inv N S X → ∀ x1 : Int32, Ev E m_ga_area 0 [(0, .ref 0), (1, .int x1)] [] X (0, 0) (gp_two E m_mo_area [(0, .ref 55), (1, .int x1)])
theorem lc_area {E : gp_E} {N : Nat → Nat} {S : gp_S} {X : gp_H} {u : Nat × Nat} {Q : Option Value → gp_H → Prop} {i : Nat} {x3 : Int32} (hp : PR_area E) (h : Inv N S X) (hx : x3 = nI i) (hi : i + 6 ≤ E.2.1) (hL : E.2.1 ≤ 3072) (hu : u.1 + 0 ≤ 600000 ∧ u.2 + 0 ≤ 7302250) (kk : ∀ N2 S2 X2, Inv N2 S2 X2 → Ev E m_lw_law 1771 [(0, .float 100), (1, .ref 0), (2, .ref 55), (3, .int x3)] [] X2 (u.1 + 0, u.2 + 0) Q) : Ev E m_lw_law 534 [(0, .float 100), (1, .ref 0), (2, .ref 55), (3, .int x3)] [] X u Q := by
  refine ev_aload_n (x := 0) (pc := 534) d_lw_law_534 rfl ?_
  refine ev_aload_nS (x := 100) (pc := 535) d_lw_law_535 rfl ?_
  refine ev_iload_n (x := x3) (pc := 536) d_lw_law_536 rfl ?_
  refine ev_iconst (v := 1) (pc := 537) d_lw_law_537 kc_i_1 ?_
  refine ev_iadd (pc := 538) d_lw_law_538 ?_
  refine ev_scld (pc := 539) d_lw_law_539 (sc_in (j := 1) hx rfl (by decide) hi hL) ?_
  refine ev_callV (z := m_ga_area) (as := [.int (E.2.2 (Int32.toNatClampNeg (x3 + 1)))]) (rest := []) (pc := 540) d_lw_law_540 (ly_at h.lay 0 rfl) lt13_11 rfl l_lw_57 i_ga_area v_ga_area o_ga_area rfl rfl (Nat.le_of_ble_eq_true rfl) rfl (Nat.le_of_ble_eq_true rfl) hu (hp h (E.2.2 (Int32.toNatClampNeg (x3 + 1)))) (fun r X1 hq => ?_)
  obtain ⟨v, S1, rfl, hL1, hev⟩ := hq
  show Ev E m_lw_law 543 [(0, .float 100), (1, .ref 0), (2, .ref 55), (3, .int x3)] [.int v] X1 (u.1 + 0, u.2 + 0) Q
  refine ev_aload_n (x := 55) (pc := 543) d_lw_law_543 rfl ?_
  refine ev_aload_nS (x := 100) (pc := 544) d_lw_law_544 rfl ?_
  refine ev_iload_n (x := x3) (pc := 545) d_lw_law_545 rfl ?_
  refine ev_iconst (v := 1) (pc := 546) d_lw_law_546 kc_i_1 ?_
  refine ev_iadd (pc := 547) d_lw_law_547 ?_
  refine ev_scld (pc := 548) d_lw_law_548 (sc_in (j := 1) hx rfl (by decide) hi hL) ?_
  refine ev_callV (z := m_mo_area) (as := [.int (E.2.2 (Int32.toNatClampNeg (x3 + 1)))]) (rest := [.int v]) (pc := 549) d_lw_law_549 (ly_at hL1 55 rfl) lt13_12 rfl l_lw_60 i_mo_area v_mo_area o_mo_area rfl rfl (Nat.le_of_ble_eq_true rfl) rfl (Nat.le_of_ble_eq_true rfl) hu hev (fun r X2 hq => ?_)
  obtain ⟨rfl, N2, h2⟩ := hq
  show Ev E m_lw_law 552 [(0, .float 100), (1, .ref 0), (2, .ref 55), (3, .int x3)] [.int v, .int v] X2 (u.1 + 0, u.2 + 0) Q
  exact ev_icmp_eq (pc := 552) (tgt := 1771) d_lw_law_552 (by decide) (fun _ => kk N2 S1 X2 h2) (fun c => absurd rfl c)
def PR_pressure (E : gp_E) : Prop := ∀ {N : Nat → Nat} {S : gp_S} {X : gp_H}, Inv N S X → ∀ x1 : Int32, Ev E m_ga_pressure 0 [(0, .ref 0), (1, .int x1)] [] X (0, 0) (gp_two E m_mo_pressure [(0, .ref 55), (1, .int x1)])
theorem lc_pressure {E : gp_E} {N : Nat → Nat} {S : gp_S} {X : gp_H} {u : Nat × Nat} {Q : Option Value → gp_H → Prop} {i : Nat} {x3 : Int32} (hp : PR_pressure E) (h : Inv N S X) (hx : x3 = nI i) (hi : i + 6 ≤ E.2.1) (hL : E.2.1 ≤ 3072) (hu : u.1 + 0 ≤ 600000 ∧ u.2 + 0 ≤ 7302250) (kk : ∀ N2 S2 X2, Inv N2 S2 X2 → Ev E m_lw_law 1771 [(0, .float 100), (1, .ref 0), (2, .ref 55), (3, .int x3)] [] X2 (u.1 + 0, u.2 + 0) Q) : Ev E m_lw_law 557 [(0, .float 100), (1, .ref 0), (2, .ref 55), (3, .int x3)] [] X u Q := by
  refine ev_aload_n (x := 0) (pc := 557) d_lw_law_557 rfl ?_
  refine ev_aload_nS (x := 100) (pc := 558) d_lw_law_558 rfl ?_
  refine ev_iload_n (x := x3) (pc := 559) d_lw_law_559 rfl ?_
  refine ev_iconst (v := 1) (pc := 560) d_lw_law_560 kc_i_1 ?_
  refine ev_iadd (pc := 561) d_lw_law_561 ?_
  refine ev_scld (pc := 562) d_lw_law_562 (sc_in (j := 1) hx rfl (by decide) hi hL) ?_
  refine ev_callV (z := m_ga_pressure) (as := [.int (E.2.2 (Int32.toNatClampNeg (x3 + 1)))]) (rest := []) (pc := 563) d_lw_law_563 (ly_at h.lay 0 rfl) lt13_11 rfl l_lw_61 i_ga_pressure v_ga_pressure o_ga_pressure rfl rfl (Nat.le_of_ble_eq_true rfl) rfl (Nat.le_of_ble_eq_true rfl) hu (hp h (E.2.2 (Int32.toNatClampNeg (x3 + 1)))) (fun r X1 hq => ?_)
  obtain ⟨v, S1, rfl, hL1, hev⟩ := hq
  show Ev E m_lw_law 566 [(0, .float 100), (1, .ref 0), (2, .ref 55), (3, .int x3)] [.int v] X1 (u.1 + 0, u.2 + 0) Q
  refine ev_aload_n (x := 55) (pc := 566) d_lw_law_566 rfl ?_
  refine ev_aload_nS (x := 100) (pc := 567) d_lw_law_567 rfl ?_
  refine ev_iload_n (x := x3) (pc := 568) d_lw_law_568 rfl ?_
  refine ev_iconst (v := 1) (pc := 569) d_lw_law_569 kc_i_1 ?_
  refine ev_iadd (pc := 570) d_lw_law_570 ?_
  refine ev_scld (pc := 571) d_lw_law_571 (sc_in (j := 1) hx rfl (by decide) hi hL) ?_
  refine ev_callV (z := m_mo_pressure) (as := [.int (E.2.2 (Int32.toNatClampNeg (x3 + 1)))]) (rest := [.int v]) (pc := 572) d_lw_law_572 (ly_at hL1 55 rfl) lt13_12 rfl l_lw_64 i_mo_pressure v_mo_pressure o_mo_pressure rfl rfl (Nat.le_of_ble_eq_true rfl) rfl (Nat.le_of_ble_eq_true rfl) hu hev (fun r X2 hq => ?_)
  obtain ⟨rfl, N2, h2⟩ := hq
  show Ev E m_lw_law 575 [(0, .float 100), (1, .ref 0), (2, .ref 55), (3, .int x3)] [.int v, .int v] X2 (u.1 + 0, u.2 + 0) Q
  exact ev_icmp_eq (pc := 575) (tgt := 1771) d_lw_law_575 (by decide) (fun _ => kk N2 S1 X2 h2) (fun c => absurd rfl c)
def PR_step (E : gp_E) : Prop := ∀ {N : Nat → Nat} {S : gp_S} {X : gp_H}, Inv N S X → ∀ x1 x2 : Int32, Ev E m_ga_step 0 [(0, .ref 0), (1, .int x1), (2, .int x2)] [] X (0, 0) (gp_two E m_mo_step [(0, .ref 55), (1, .int x1), (2, .int x2)])
theorem lc_step {E : gp_E} {N : Nat → Nat} {S : gp_S} {X : gp_H} {u : Nat × Nat} {Q : Option Value → gp_H → Prop} {i : Nat} {x3 : Int32} (hp : PR_step E) (h : Inv N S X) (hx : x3 = nI i) (hi : i + 6 ≤ E.2.1) (hL : E.2.1 ≤ 3072) (hu : u.1 + 0 ≤ 600000 ∧ u.2 + 0 ≤ 7302250) (kk : ∀ N2 S2 X2, Inv N2 S2 X2 → Ev E m_lw_law 1771 [(0, .float 100), (1, .ref 0), (2, .ref 55), (3, .int x3)] [] X2 (u.1 + 0, u.2 + 0) Q) : Ev E m_lw_law 580 [(0, .float 100), (1, .ref 0), (2, .ref 55), (3, .int x3)] [] X u Q := by
  refine ev_aload_n (x := 0) (pc := 580) d_lw_law_580 rfl ?_
  refine ev_aload_nS (x := 100) (pc := 581) d_lw_law_581 rfl ?_
  refine ev_iload_n (x := x3) (pc := 582) d_lw_law_582 rfl ?_
  refine ev_iconst (v := 1) (pc := 583) d_lw_law_583 kc_i_1 ?_
  refine ev_iadd (pc := 584) d_lw_law_584 ?_
  refine ev_scld (pc := 585) d_lw_law_585 (sc_in (j := 1) hx rfl (by decide) hi hL) ?_
  refine ev_aload_nS (x := 100) (pc := 586) d_lw_law_586 rfl ?_
  refine ev_iload_n (x := x3) (pc := 587) d_lw_law_587 rfl ?_
  refine ev_iconst (v := 2) (pc := 588) d_lw_law_588 kc_i_2 ?_
  refine ev_iadd (pc := 589) d_lw_law_589 ?_
  refine ev_scld (pc := 590) d_lw_law_590 (sc_in (j := 2) hx rfl (by decide) hi hL) ?_
  refine ev_callV (z := m_ga_step) (as := [.int (E.2.2 (Int32.toNatClampNeg (x3 + 1))), .int (E.2.2 (Int32.toNatClampNeg (x3 + 2)))]) (rest := []) (pc := 591) d_lw_law_591 (ly_at h.lay 0 rfl) lt13_11 rfl l_lw_65 i_ga_step v_ga_step o_ga_step rfl rfl (Nat.le_of_ble_eq_true rfl) rfl (Nat.le_of_ble_eq_true rfl) hu (hp h (E.2.2 (Int32.toNatClampNeg (x3 + 1))) (E.2.2 (Int32.toNatClampNeg (x3 + 2)))) (fun r X1 hq => ?_)
  obtain ⟨v, S1, rfl, hL1, hev⟩ := hq
  show Ev E m_lw_law 594 [(0, .float 100), (1, .ref 0), (2, .ref 55), (3, .int x3)] [.int v] X1 (u.1 + 0, u.2 + 0) Q
  refine ev_aload_n (x := 55) (pc := 594) d_lw_law_594 rfl ?_
  refine ev_aload_nS (x := 100) (pc := 595) d_lw_law_595 rfl ?_
  refine ev_iload_n (x := x3) (pc := 596) d_lw_law_596 rfl ?_
  refine ev_iconst (v := 1) (pc := 597) d_lw_law_597 kc_i_1 ?_
  refine ev_iadd (pc := 598) d_lw_law_598 ?_
  refine ev_scld (pc := 599) d_lw_law_599 (sc_in (j := 1) hx rfl (by decide) hi hL) ?_
  refine ev_aload_nS (x := 100) (pc := 600) d_lw_law_600 rfl ?_
  refine ev_iload_n (x := x3) (pc := 601) d_lw_law_601 rfl ?_
  refine ev_iconst (v := 2) (pc := 602) d_lw_law_602 kc_i_2 ?_
  refine ev_iadd (pc := 603) d_lw_law_603 ?_
  refine ev_scld (pc := 604) d_lw_law_604 (sc_in (j := 2) hx rfl (by decide) hi hL) ?_
  refine ev_callV (z := m_mo_step) (as := [.int (E.2.2 (Int32.toNatClampNeg (x3 + 1))), .int (E.2.2 (Int32.toNatClampNeg (x3 + 2)))]) (rest := [.int v]) (pc := 605) d_lw_law_605 (ly_at hL1 55 rfl) lt13_12 rfl l_lw_68 i_mo_step v_mo_step o_mo_step rfl rfl (Nat.le_of_ble_eq_true rfl) rfl (Nat.le_of_ble_eq_true rfl) hu hev (fun r X2 hq => ?_)
  obtain ⟨rfl, N2, h2⟩ := hq
  show Ev E m_lw_law 608 [(0, .float 100), (1, .ref 0), (2, .ref 55), (3, .int x3)] [.int v, .int v] X2 (u.1 + 0, u.2 + 0) Q
  exact ev_icmp_eq (pc := 608) (tgt := 1771) d_lw_law_608 (by decide) (fun _ => kk N2 S1 X2 h2) (fun c => absurd rfl c)
def PR_model (E : gp_E) : Prop := ∀ {N : Nat → Nat} {S : gp_S} {X : gp_H}, Inv N S X → ∀ x1 x2 x3 x4 x5 : Int32, Ev E m_ga_model 0 [(0, .ref 0), (1, .int x1), (2, .int x2), (3, .int x3), (4, .int x4), (5, .int x5)] [] X (0, 0) (gp_two E m_mo_model [(0, .ref 55), (1, .int x1), (2, .int x2), (3, .int x3), (4, .int x4), (5, .int x5)])
theorem lc_model {E : gp_E} {N : Nat → Nat} {S : gp_S} {X : gp_H} {u : Nat × Nat} {Q : Option Value → gp_H → Prop} {i : Nat} {x3 : Int32} (hp : PR_model E) (h : Inv N S X) (hx : x3 = nI i) (hi : i + 6 ≤ E.2.1) (hL : E.2.1 ≤ 3072) (hu : u.1 + 1 ≤ 600000 ∧ u.2 + 6 ≤ 7302250) (kk : ∀ N2 S2 X2, Inv N2 S2 X2 → Ev E m_lw_law 1771 [(0, .float 100), (1, .ref 0), (2, .ref 55), (3, .int x3)] [] X2 (u.1 + 1, u.2 + 6) Q) : Ev E m_lw_law 613 [(0, .float 100), (1, .ref 0), (2, .ref 55), (3, .int x3)] [] X u Q := by
  refine ev_aload_n (x := 0) (pc := 613) d_lw_law_613 rfl ?_
  refine ev_aload_nS (x := 100) (pc := 614) d_lw_law_614 rfl ?_
  refine ev_iload_n (x := x3) (pc := 615) d_lw_law_615 rfl ?_
  refine ev_iconst (v := 1) (pc := 616) d_lw_law_616 kc_i_1 ?_
  refine ev_iadd (pc := 617) d_lw_law_617 ?_
  refine ev_scld (pc := 618) d_lw_law_618 (sc_in (j := 1) hx rfl (by decide) hi hL) ?_
  refine ev_aload_nS (x := 100) (pc := 619) d_lw_law_619 rfl ?_
  refine ev_iload_n (x := x3) (pc := 620) d_lw_law_620 rfl ?_
  refine ev_iconst (v := 2) (pc := 621) d_lw_law_621 kc_i_2 ?_
  refine ev_iadd (pc := 622) d_lw_law_622 ?_
  refine ev_scld (pc := 623) d_lw_law_623 (sc_in (j := 2) hx rfl (by decide) hi hL) ?_
  refine ev_aload_nS (x := 100) (pc := 624) d_lw_law_624 rfl ?_
  refine ev_iload_n (x := x3) (pc := 625) d_lw_law_625 rfl ?_
  refine ev_iconst (v := 3) (pc := 626) d_lw_law_626 kc_i_3 ?_
  refine ev_iadd (pc := 627) d_lw_law_627 ?_
  refine ev_scld (pc := 628) d_lw_law_628 (sc_in (j := 3) hx rfl (by decide) hi hL) ?_
  refine ev_aload_nS (x := 100) (pc := 629) d_lw_law_629 rfl ?_
  refine ev_iload_n (x := x3) (pc := 630) d_lw_law_630 rfl ?_
  refine ev_iconst (v := 4) (pc := 631) d_lw_law_631 kc_i_4 ?_
  refine ev_iadd (pc := 632) d_lw_law_632 ?_
  refine ev_scld (pc := 633) d_lw_law_633 (sc_in (j := 4) hx rfl (by decide) hi hL) ?_
  refine ev_aload_nS (x := 100) (pc := 634) d_lw_law_634 rfl ?_
  refine ev_iload_n (x := x3) (pc := 635) d_lw_law_635 rfl ?_
  refine ev_iconst (v := 5) (pc := 636) d_lw_law_636 kc_i_5 ?_
  refine ev_iadd (pc := 637) d_lw_law_637 ?_
  refine ev_scld (pc := 638) d_lw_law_638 (sc_in (j := 5) hx rfl (by decide) hi hL) ?_
  refine ev_callV (z := m_ga_model) (as := [.int (E.2.2 (Int32.toNatClampNeg (x3 + 1))), .int (E.2.2 (Int32.toNatClampNeg (x3 + 2))), .int (E.2.2 (Int32.toNatClampNeg (x3 + 3))), .int (E.2.2 (Int32.toNatClampNeg (x3 + 4))), .int (E.2.2 (Int32.toNatClampNeg (x3 + 5)))]) (rest := []) (pc := 639) d_lw_law_639 (ly_at h.lay 0 rfl) lt13_11 rfl l_lw_69 i_ga_model v_ga_model o_ga_model rfl rfl (Nat.le_of_ble_eq_true rfl) rfl (Nat.le_of_ble_eq_true rfl) hu (hp h (E.2.2 (Int32.toNatClampNeg (x3 + 1))) (E.2.2 (Int32.toNatClampNeg (x3 + 2))) (E.2.2 (Int32.toNatClampNeg (x3 + 3))) (E.2.2 (Int32.toNatClampNeg (x3 + 4))) (E.2.2 (Int32.toNatClampNeg (x3 + 5)))) (fun r X1 hq => ?_)
  obtain ⟨v, S1, rfl, hL1, hev⟩ := hq
  show Ev E m_lw_law 642 [(0, .float 100), (1, .ref 0), (2, .ref 55), (3, .int x3)] [.int v] X1 (u.1 + 1, u.2 + 6) Q
  refine ev_aload_n (x := 55) (pc := 642) d_lw_law_642 rfl ?_
  refine ev_aload_nS (x := 100) (pc := 643) d_lw_law_643 rfl ?_
  refine ev_iload_n (x := x3) (pc := 644) d_lw_law_644 rfl ?_
  refine ev_iconst (v := 1) (pc := 645) d_lw_law_645 kc_i_1 ?_
  refine ev_iadd (pc := 646) d_lw_law_646 ?_
  refine ev_scld (pc := 647) d_lw_law_647 (sc_in (j := 1) hx rfl (by decide) hi hL) ?_
  refine ev_aload_nS (x := 100) (pc := 648) d_lw_law_648 rfl ?_
  refine ev_iload_n (x := x3) (pc := 649) d_lw_law_649 rfl ?_
  refine ev_iconst (v := 2) (pc := 650) d_lw_law_650 kc_i_2 ?_
  refine ev_iadd (pc := 651) d_lw_law_651 ?_
  refine ev_scld (pc := 652) d_lw_law_652 (sc_in (j := 2) hx rfl (by decide) hi hL) ?_
  refine ev_aload_nS (x := 100) (pc := 653) d_lw_law_653 rfl ?_
  refine ev_iload_n (x := x3) (pc := 654) d_lw_law_654 rfl ?_
  refine ev_iconst (v := 3) (pc := 655) d_lw_law_655 kc_i_3 ?_
  refine ev_iadd (pc := 656) d_lw_law_656 ?_
  refine ev_scld (pc := 657) d_lw_law_657 (sc_in (j := 3) hx rfl (by decide) hi hL) ?_
  refine ev_aload_nS (x := 100) (pc := 658) d_lw_law_658 rfl ?_
  refine ev_iload_n (x := x3) (pc := 659) d_lw_law_659 rfl ?_
  refine ev_iconst (v := 4) (pc := 660) d_lw_law_660 kc_i_4 ?_
  refine ev_iadd (pc := 661) d_lw_law_661 ?_
  refine ev_scld (pc := 662) d_lw_law_662 (sc_in (j := 4) hx rfl (by decide) hi hL) ?_
  refine ev_aload_nS (x := 100) (pc := 663) d_lw_law_663 rfl ?_
  refine ev_iload_n (x := x3) (pc := 664) d_lw_law_664 rfl ?_
  refine ev_iconst (v := 5) (pc := 665) d_lw_law_665 kc_i_5 ?_
  refine ev_iadd (pc := 666) d_lw_law_666 ?_
  refine ev_scld (pc := 667) d_lw_law_667 (sc_in (j := 5) hx rfl (by decide) hi hL) ?_
  refine ev_callV (z := m_mo_model) (as := [.int (E.2.2 (Int32.toNatClampNeg (x3 + 1))), .int (E.2.2 (Int32.toNatClampNeg (x3 + 2))), .int (E.2.2 (Int32.toNatClampNeg (x3 + 3))), .int (E.2.2 (Int32.toNatClampNeg (x3 + 4))), .int (E.2.2 (Int32.toNatClampNeg (x3 + 5)))]) (rest := [.int v]) (pc := 668) d_lw_law_668 (ly_at hL1 55 rfl) lt13_12 rfl l_lw_73 i_mo_model v_mo_model o_mo_model rfl rfl (Nat.le_of_ble_eq_true rfl) rfl (Nat.le_of_ble_eq_true rfl) hu hev (fun r X2 hq => ?_)
  obtain ⟨rfl, N2, h2⟩ := hq
  show Ev E m_lw_law 671 [(0, .float 100), (1, .ref 0), (2, .ref 55), (3, .int x3)] [.int v, .int v] X2 (u.1 + 1, u.2 + 6) Q
  exact ev_icmp_eq (pc := 671) (tgt := 1771) d_lw_law_671 (by decide) (fun _ => kk N2 S1 X2 h2) (fun c => absurd rfl c)
def PR_home (E : gp_E) : Prop := ∀ {N : Nat → Nat} {S : gp_S} {X : gp_H}, Inv N S X → ∀ x1 x2 x3 x4 : Int32, Ev E m_ga_home 0 [(0, .ref 0), (1, .int x1), (2, .int x2), (3, .int x3), (4, .int x4)] [] X (0, 0) (gp_two E m_mo_home [(0, .ref 55), (1, .int x1), (2, .int x2), (3, .int x3), (4, .int x4)])
theorem lc_home {E : gp_E} {N : Nat → Nat} {S : gp_S} {X : gp_H} {u : Nat × Nat} {Q : Option Value → gp_H → Prop} {i : Nat} {x3 : Int32} (hp : PR_home E) (h : Inv N S X) (hx : x3 = nI i) (hi : i + 6 ≤ E.2.1) (hL : E.2.1 ≤ 3072) (hu : u.1 + 1 ≤ 600000 ∧ u.2 + 10 ≤ 7302250) (kk : ∀ N2 S2 X2, Inv N2 S2 X2 → Ev E m_lw_law 1771 [(0, .float 100), (1, .ref 0), (2, .ref 55), (3, .int x3)] [] X2 (u.1 + 1, u.2 + 10) Q) : Ev E m_lw_law 676 [(0, .float 100), (1, .ref 0), (2, .ref 55), (3, .int x3)] [] X u Q := by
  refine ev_aload_n (x := 0) (pc := 676) d_lw_law_676 rfl ?_
  refine ev_aload_nS (x := 100) (pc := 677) d_lw_law_677 rfl ?_
  refine ev_iload_n (x := x3) (pc := 678) d_lw_law_678 rfl ?_
  refine ev_iconst (v := 1) (pc := 679) d_lw_law_679 kc_i_1 ?_
  refine ev_iadd (pc := 680) d_lw_law_680 ?_
  refine ev_scld (pc := 681) d_lw_law_681 (sc_in (j := 1) hx rfl (by decide) hi hL) ?_
  refine ev_aload_nS (x := 100) (pc := 682) d_lw_law_682 rfl ?_
  refine ev_iload_n (x := x3) (pc := 683) d_lw_law_683 rfl ?_
  refine ev_iconst (v := 2) (pc := 684) d_lw_law_684 kc_i_2 ?_
  refine ev_iadd (pc := 685) d_lw_law_685 ?_
  refine ev_scld (pc := 686) d_lw_law_686 (sc_in (j := 2) hx rfl (by decide) hi hL) ?_
  refine ev_aload_nS (x := 100) (pc := 687) d_lw_law_687 rfl ?_
  refine ev_iload_n (x := x3) (pc := 688) d_lw_law_688 rfl ?_
  refine ev_iconst (v := 3) (pc := 689) d_lw_law_689 kc_i_3 ?_
  refine ev_iadd (pc := 690) d_lw_law_690 ?_
  refine ev_scld (pc := 691) d_lw_law_691 (sc_in (j := 3) hx rfl (by decide) hi hL) ?_
  refine ev_aload_nS (x := 100) (pc := 692) d_lw_law_692 rfl ?_
  refine ev_iload_n (x := x3) (pc := 693) d_lw_law_693 rfl ?_
  refine ev_iconst (v := 4) (pc := 694) d_lw_law_694 kc_i_4 ?_
  refine ev_iadd (pc := 695) d_lw_law_695 ?_
  refine ev_scld (pc := 696) d_lw_law_696 (sc_in (j := 4) hx rfl (by decide) hi hL) ?_
  refine ev_callV (z := m_ga_home) (as := [.int (E.2.2 (Int32.toNatClampNeg (x3 + 1))), .int (E.2.2 (Int32.toNatClampNeg (x3 + 2))), .int (E.2.2 (Int32.toNatClampNeg (x3 + 3))), .int (E.2.2 (Int32.toNatClampNeg (x3 + 4)))]) (rest := []) (pc := 697) d_lw_law_697 (ly_at h.lay 0 rfl) lt13_11 rfl l_lw_74 i_ga_home v_ga_home o_ga_home rfl rfl (Nat.le_of_ble_eq_true rfl) rfl (Nat.le_of_ble_eq_true rfl) hu (hp h (E.2.2 (Int32.toNatClampNeg (x3 + 1))) (E.2.2 (Int32.toNatClampNeg (x3 + 2))) (E.2.2 (Int32.toNatClampNeg (x3 + 3))) (E.2.2 (Int32.toNatClampNeg (x3 + 4)))) (fun r X1 hq => ?_)
  obtain ⟨v, S1, rfl, hL1, hev⟩ := hq
  show Ev E m_lw_law 700 [(0, .float 100), (1, .ref 0), (2, .ref 55), (3, .int x3)] [.int v] X1 (u.1 + 1, u.2 + 10) Q
  refine ev_aload_n (x := 55) (pc := 700) d_lw_law_700 rfl ?_
  refine ev_aload_nS (x := 100) (pc := 701) d_lw_law_701 rfl ?_
  refine ev_iload_n (x := x3) (pc := 702) d_lw_law_702 rfl ?_
  refine ev_iconst (v := 1) (pc := 703) d_lw_law_703 kc_i_1 ?_
  refine ev_iadd (pc := 704) d_lw_law_704 ?_
  refine ev_scld (pc := 705) d_lw_law_705 (sc_in (j := 1) hx rfl (by decide) hi hL) ?_
  refine ev_aload_nS (x := 100) (pc := 706) d_lw_law_706 rfl ?_
  refine ev_iload_n (x := x3) (pc := 707) d_lw_law_707 rfl ?_
  refine ev_iconst (v := 2) (pc := 708) d_lw_law_708 kc_i_2 ?_
  refine ev_iadd (pc := 709) d_lw_law_709 ?_
  refine ev_scld (pc := 710) d_lw_law_710 (sc_in (j := 2) hx rfl (by decide) hi hL) ?_
  refine ev_aload_nS (x := 100) (pc := 711) d_lw_law_711 rfl ?_
  refine ev_iload_n (x := x3) (pc := 712) d_lw_law_712 rfl ?_
  refine ev_iconst (v := 3) (pc := 713) d_lw_law_713 kc_i_3 ?_
  refine ev_iadd (pc := 714) d_lw_law_714 ?_
  refine ev_scld (pc := 715) d_lw_law_715 (sc_in (j := 3) hx rfl (by decide) hi hL) ?_
  refine ev_aload_nS (x := 100) (pc := 716) d_lw_law_716 rfl ?_
  refine ev_iload_n (x := x3) (pc := 717) d_lw_law_717 rfl ?_
  refine ev_iconst (v := 4) (pc := 718) d_lw_law_718 kc_i_4 ?_
  refine ev_iadd (pc := 719) d_lw_law_719 ?_
  refine ev_scld (pc := 720) d_lw_law_720 (sc_in (j := 4) hx rfl (by decide) hi hL) ?_
  refine ev_callV (z := m_mo_home) (as := [.int (E.2.2 (Int32.toNatClampNeg (x3 + 1))), .int (E.2.2 (Int32.toNatClampNeg (x3 + 2))), .int (E.2.2 (Int32.toNatClampNeg (x3 + 3))), .int (E.2.2 (Int32.toNatClampNeg (x3 + 4)))]) (rest := [.int v]) (pc := 721) d_lw_law_721 (ly_at hL1 55 rfl) lt13_12 rfl l_lw_78 i_mo_home v_mo_home o_mo_home rfl rfl (Nat.le_of_ble_eq_true rfl) rfl (Nat.le_of_ble_eq_true rfl) hu hev (fun r X2 hq => ?_)
  obtain ⟨rfl, N2, h2⟩ := hq
  show Ev E m_lw_law 724 [(0, .float 100), (1, .ref 0), (2, .ref 55), (3, .int x3)] [.int v, .int v] X2 (u.1 + 1, u.2 + 10) Q
  exact ev_icmp_eq (pc := 724) (tgt := 1771) d_lw_law_724 (by decide) (fun _ => kk N2 S1 X2 h2) (fun c => absurd rfl c)
def PR_survey (E : gp_E) : Prop := ∀ {N : Nat → Nat} {S : gp_S} {X : gp_H}, Inv N S X → ∀ x1 x2 : Int32, Ev E m_ga_survey 0 [(0, .ref 0), (1, .int x1), (2, .int x2)] [] X (0, 0) (gp_two E m_mo_survey [(0, .ref 55), (1, .int x1), (2, .int x2)])
theorem lc_survey {E : gp_E} {N : Nat → Nat} {S : gp_S} {X : gp_H} {u : Nat × Nat} {Q : Option Value → gp_H → Prop} {i : Nat} {x3 : Int32} (hp : PR_survey E) (h : Inv N S X) (hx : x3 = nI i) (hi : i + 6 ≤ E.2.1) (hL : E.2.1 ≤ 3072) (hu : u.1 + 0 ≤ 600000 ∧ u.2 + 0 ≤ 7302250) (kk : ∀ N2 S2 X2, Inv N2 S2 X2 → Ev E m_lw_law 1771 [(0, .float 100), (1, .ref 0), (2, .ref 55), (3, .int x3)] [] X2 (u.1 + 0, u.2 + 0) Q) : Ev E m_lw_law 729 [(0, .float 100), (1, .ref 0), (2, .ref 55), (3, .int x3)] [] X u Q := by
  refine ev_aload_n (x := 0) (pc := 729) d_lw_law_729 rfl ?_
  refine ev_aload_nS (x := 100) (pc := 730) d_lw_law_730 rfl ?_
  refine ev_iload_n (x := x3) (pc := 731) d_lw_law_731 rfl ?_
  refine ev_iconst (v := 1) (pc := 732) d_lw_law_732 kc_i_1 ?_
  refine ev_iadd (pc := 733) d_lw_law_733 ?_
  refine ev_scld (pc := 734) d_lw_law_734 (sc_in (j := 1) hx rfl (by decide) hi hL) ?_
  refine ev_aload_nS (x := 100) (pc := 735) d_lw_law_735 rfl ?_
  refine ev_iload_n (x := x3) (pc := 736) d_lw_law_736 rfl ?_
  refine ev_iconst (v := 2) (pc := 737) d_lw_law_737 kc_i_2 ?_
  refine ev_iadd (pc := 738) d_lw_law_738 ?_
  refine ev_scld (pc := 739) d_lw_law_739 (sc_in (j := 2) hx rfl (by decide) hi hL) ?_
  refine ev_callV (z := m_ga_survey) (as := [.int (E.2.2 (Int32.toNatClampNeg (x3 + 1))), .int (E.2.2 (Int32.toNatClampNeg (x3 + 2)))]) (rest := []) (pc := 740) d_lw_law_740 (ly_at h.lay 0 rfl) lt13_11 rfl l_lw_79 i_ga_survey v_ga_survey o_ga_survey rfl rfl (Nat.le_of_ble_eq_true rfl) rfl (Nat.le_of_ble_eq_true rfl) hu (hp h (E.2.2 (Int32.toNatClampNeg (x3 + 1))) (E.2.2 (Int32.toNatClampNeg (x3 + 2)))) (fun r X1 hq => ?_)
  obtain ⟨v, S1, rfl, hL1, hev⟩ := hq
  show Ev E m_lw_law 743 [(0, .float 100), (1, .ref 0), (2, .ref 55), (3, .int x3)] [.int v] X1 (u.1 + 0, u.2 + 0) Q
  refine ev_aload_n (x := 55) (pc := 743) d_lw_law_743 rfl ?_
  refine ev_aload_nS (x := 100) (pc := 744) d_lw_law_744 rfl ?_
  refine ev_iload_n (x := x3) (pc := 745) d_lw_law_745 rfl ?_
  refine ev_iconst (v := 1) (pc := 746) d_lw_law_746 kc_i_1 ?_
  refine ev_iadd (pc := 747) d_lw_law_747 ?_
  refine ev_scld (pc := 748) d_lw_law_748 (sc_in (j := 1) hx rfl (by decide) hi hL) ?_
  refine ev_aload_nS (x := 100) (pc := 749) d_lw_law_749 rfl ?_
  refine ev_iload_n (x := x3) (pc := 750) d_lw_law_750 rfl ?_
  refine ev_iconst (v := 2) (pc := 751) d_lw_law_751 kc_i_2 ?_
  refine ev_iadd (pc := 752) d_lw_law_752 ?_
  refine ev_scld (pc := 753) d_lw_law_753 (sc_in (j := 2) hx rfl (by decide) hi hL) ?_
  refine ev_callV (z := m_mo_survey) (as := [.int (E.2.2 (Int32.toNatClampNeg (x3 + 1))), .int (E.2.2 (Int32.toNatClampNeg (x3 + 2)))]) (rest := [.int v]) (pc := 754) d_lw_law_754 (ly_at hL1 55 rfl) lt13_12 rfl l_lw_82 i_mo_survey v_mo_survey o_mo_survey rfl rfl (Nat.le_of_ble_eq_true rfl) rfl (Nat.le_of_ble_eq_true rfl) hu hev (fun r X2 hq => ?_)
  obtain ⟨rfl, N2, h2⟩ := hq
  show Ev E m_lw_law 757 [(0, .float 100), (1, .ref 0), (2, .ref 55), (3, .int x3)] [.int v, .int v] X2 (u.1 + 0, u.2 + 0) Q
  exact ev_icmp_eq (pc := 757) (tgt := 1771) d_lw_law_757 (by decide) (fun _ => kk N2 S1 X2 h2) (fun c => absurd rfl c)
def PR_lay (E : gp_E) : Prop := ∀ {N : Nat → Nat} {S : gp_S} {X : gp_H}, Inv N S X → ∀ x1 x2 x3 x4 : Int32, Ev E m_ga_lay 0 [(0, .ref 0), (1, .int x1), (2, .int x2), (3, .int x3), (4, .int x4)] [] X (0, 0) (gp_two E m_mo_lay [(0, .ref 55), (1, .int x1), (2, .int x2), (3, .int x3), (4, .int x4)])
theorem lc_lay {E : gp_E} {N : Nat → Nat} {S : gp_S} {X : gp_H} {u : Nat × Nat} {Q : Option Value → gp_H → Prop} {i : Nat} {x3 : Int32} (hp : PR_lay E) (h : Inv N S X) (hx : x3 = nI i) (hi : i + 6 ≤ E.2.1) (hL : E.2.1 ≤ 3072) (hu : u.1 + 0 ≤ 600000 ∧ u.2 + 0 ≤ 7302250) (kk : ∀ N2 S2 X2, Inv N2 S2 X2 → Ev E m_lw_law 1771 [(0, .float 100), (1, .ref 0), (2, .ref 55), (3, .int x3)] [] X2 (u.1 + 0, u.2 + 0) Q) : Ev E m_lw_law 762 [(0, .float 100), (1, .ref 0), (2, .ref 55), (3, .int x3)] [] X u Q := by
  refine ev_aload_n (x := 0) (pc := 762) d_lw_law_762 rfl ?_
  refine ev_aload_nS (x := 100) (pc := 763) d_lw_law_763 rfl ?_
  refine ev_iload_n (x := x3) (pc := 764) d_lw_law_764 rfl ?_
  refine ev_iconst (v := 1) (pc := 765) d_lw_law_765 kc_i_1 ?_
  refine ev_iadd (pc := 766) d_lw_law_766 ?_
  refine ev_scld (pc := 767) d_lw_law_767 (sc_in (j := 1) hx rfl (by decide) hi hL) ?_
  refine ev_aload_nS (x := 100) (pc := 768) d_lw_law_768 rfl ?_
  refine ev_iload_n (x := x3) (pc := 769) d_lw_law_769 rfl ?_
  refine ev_iconst (v := 2) (pc := 770) d_lw_law_770 kc_i_2 ?_
  refine ev_iadd (pc := 771) d_lw_law_771 ?_
  refine ev_scld (pc := 772) d_lw_law_772 (sc_in (j := 2) hx rfl (by decide) hi hL) ?_
  refine ev_aload_nS (x := 100) (pc := 773) d_lw_law_773 rfl ?_
  refine ev_iload_n (x := x3) (pc := 774) d_lw_law_774 rfl ?_
  refine ev_iconst (v := 3) (pc := 775) d_lw_law_775 kc_i_3 ?_
  refine ev_iadd (pc := 776) d_lw_law_776 ?_
  refine ev_scld (pc := 777) d_lw_law_777 (sc_in (j := 3) hx rfl (by decide) hi hL) ?_
  refine ev_aload_nS (x := 100) (pc := 778) d_lw_law_778 rfl ?_
  refine ev_iload_n (x := x3) (pc := 779) d_lw_law_779 rfl ?_
  refine ev_iconst (v := 4) (pc := 780) d_lw_law_780 kc_i_4 ?_
  refine ev_iadd (pc := 781) d_lw_law_781 ?_
  refine ev_scld (pc := 782) d_lw_law_782 (sc_in (j := 4) hx rfl (by decide) hi hL) ?_
  refine ev_callV (z := m_ga_lay) (as := [.int (E.2.2 (Int32.toNatClampNeg (x3 + 1))), .int (E.2.2 (Int32.toNatClampNeg (x3 + 2))), .int (E.2.2 (Int32.toNatClampNeg (x3 + 3))), .int (E.2.2 (Int32.toNatClampNeg (x3 + 4)))]) (rest := []) (pc := 783) d_lw_law_783 (ly_at h.lay 0 rfl) lt13_11 rfl l_lw_83 i_ga_lay v_ga_lay o_ga_lay rfl rfl (Nat.le_of_ble_eq_true rfl) rfl (Nat.le_of_ble_eq_true rfl) hu (hp h (E.2.2 (Int32.toNatClampNeg (x3 + 1))) (E.2.2 (Int32.toNatClampNeg (x3 + 2))) (E.2.2 (Int32.toNatClampNeg (x3 + 3))) (E.2.2 (Int32.toNatClampNeg (x3 + 4)))) (fun r X1 hq => ?_)
  obtain ⟨v, S1, rfl, hL1, hev⟩ := hq
  show Ev E m_lw_law 786 [(0, .float 100), (1, .ref 0), (2, .ref 55), (3, .int x3)] [.int v] X1 (u.1 + 0, u.2 + 0) Q
  refine ev_aload_n (x := 55) (pc := 786) d_lw_law_786 rfl ?_
  refine ev_aload_nS (x := 100) (pc := 787) d_lw_law_787 rfl ?_
  refine ev_iload_n (x := x3) (pc := 788) d_lw_law_788 rfl ?_
  refine ev_iconst (v := 1) (pc := 789) d_lw_law_789 kc_i_1 ?_
  refine ev_iadd (pc := 790) d_lw_law_790 ?_
  refine ev_scld (pc := 791) d_lw_law_791 (sc_in (j := 1) hx rfl (by decide) hi hL) ?_
  refine ev_aload_nS (x := 100) (pc := 792) d_lw_law_792 rfl ?_
  refine ev_iload_n (x := x3) (pc := 793) d_lw_law_793 rfl ?_
  refine ev_iconst (v := 2) (pc := 794) d_lw_law_794 kc_i_2 ?_
  refine ev_iadd (pc := 795) d_lw_law_795 ?_
  refine ev_scld (pc := 796) d_lw_law_796 (sc_in (j := 2) hx rfl (by decide) hi hL) ?_
  refine ev_aload_nS (x := 100) (pc := 797) d_lw_law_797 rfl ?_
  refine ev_iload_n (x := x3) (pc := 798) d_lw_law_798 rfl ?_
  refine ev_iconst (v := 3) (pc := 799) d_lw_law_799 kc_i_3 ?_
  refine ev_iadd (pc := 800) d_lw_law_800 ?_
  refine ev_scld (pc := 801) d_lw_law_801 (sc_in (j := 3) hx rfl (by decide) hi hL) ?_
  refine ev_aload_nS (x := 100) (pc := 802) d_lw_law_802 rfl ?_
  refine ev_iload_n (x := x3) (pc := 803) d_lw_law_803 rfl ?_
  refine ev_iconst (v := 4) (pc := 804) d_lw_law_804 kc_i_4 ?_
  refine ev_iadd (pc := 805) d_lw_law_805 ?_
  refine ev_scld (pc := 806) d_lw_law_806 (sc_in (j := 4) hx rfl (by decide) hi hL) ?_
  refine ev_callV (z := m_mo_lay) (as := [.int (E.2.2 (Int32.toNatClampNeg (x3 + 1))), .int (E.2.2 (Int32.toNatClampNeg (x3 + 2))), .int (E.2.2 (Int32.toNatClampNeg (x3 + 3))), .int (E.2.2 (Int32.toNatClampNeg (x3 + 4)))]) (rest := [.int v]) (pc := 807) d_lw_law_807 (ly_at hL1 55 rfl) lt13_12 rfl l_lw_86 i_mo_lay v_mo_lay o_mo_lay rfl rfl (Nat.le_of_ble_eq_true rfl) rfl (Nat.le_of_ble_eq_true rfl) hu hev (fun r X2 hq => ?_)
  obtain ⟨rfl, N2, h2⟩ := hq
  show Ev E m_lw_law 810 [(0, .float 100), (1, .ref 0), (2, .ref 55), (3, .int x3)] [.int v, .int v] X2 (u.1 + 0, u.2 + 0) Q
  exact ev_icmp_eq (pc := 810) (tgt := 1771) d_lw_law_810 (by decide) (fun _ => kk N2 S1 X2 h2) (fun c => absurd rfl c)
def PR_known (E : gp_E) : Prop := ∀ {N : Nat → Nat} {S : gp_S} {X : gp_H}, Inv N S X → ∀ x1 x2 : Int32, Ev E m_ga_known 0 [(0, .ref 0), (1, .int x1), (2, .int x2)] [] X (0, 0) (gp_two E m_mo_known [(0, .ref 55), (1, .int x1), (2, .int x2)])
theorem lc_known {E : gp_E} {N : Nat → Nat} {S : gp_S} {X : gp_H} {u : Nat × Nat} {Q : Option Value → gp_H → Prop} {i : Nat} {x3 : Int32} (hp : PR_known E) (h : Inv N S X) (hx : x3 = nI i) (hi : i + 6 ≤ E.2.1) (hL : E.2.1 ≤ 3072) (hu : u.1 + 0 ≤ 600000 ∧ u.2 + 0 ≤ 7302250) (kk : ∀ N2 S2 X2, Inv N2 S2 X2 → Ev E m_lw_law 1771 [(0, .float 100), (1, .ref 0), (2, .ref 55), (3, .int x3)] [] X2 (u.1 + 0, u.2 + 0) Q) : Ev E m_lw_law 815 [(0, .float 100), (1, .ref 0), (2, .ref 55), (3, .int x3)] [] X u Q := by
  refine ev_aload_n (x := 0) (pc := 815) d_lw_law_815 rfl ?_
  refine ev_aload_nS (x := 100) (pc := 816) d_lw_law_816 rfl ?_
  refine ev_iload_n (x := x3) (pc := 817) d_lw_law_817 rfl ?_
  refine ev_iconst (v := 1) (pc := 818) d_lw_law_818 kc_i_1 ?_
  refine ev_iadd (pc := 819) d_lw_law_819 ?_
  refine ev_scld (pc := 820) d_lw_law_820 (sc_in (j := 1) hx rfl (by decide) hi hL) ?_
  refine ev_aload_nS (x := 100) (pc := 821) d_lw_law_821 rfl ?_
  refine ev_iload_n (x := x3) (pc := 822) d_lw_law_822 rfl ?_
  refine ev_iconst (v := 2) (pc := 823) d_lw_law_823 kc_i_2 ?_
  refine ev_iadd (pc := 824) d_lw_law_824 ?_
  refine ev_scld (pc := 825) d_lw_law_825 (sc_in (j := 2) hx rfl (by decide) hi hL) ?_
  refine ev_callV (z := m_ga_known) (as := [.int (E.2.2 (Int32.toNatClampNeg (x3 + 1))), .int (E.2.2 (Int32.toNatClampNeg (x3 + 2)))]) (rest := []) (pc := 826) d_lw_law_826 (ly_at h.lay 0 rfl) lt13_11 rfl l_lw_87 i_ga_known v_ga_known o_ga_known rfl rfl (Nat.le_of_ble_eq_true rfl) rfl (Nat.le_of_ble_eq_true rfl) hu (hp h (E.2.2 (Int32.toNatClampNeg (x3 + 1))) (E.2.2 (Int32.toNatClampNeg (x3 + 2)))) (fun r X1 hq => ?_)
  obtain ⟨v, S1, rfl, hL1, hev⟩ := hq
  show Ev E m_lw_law 829 [(0, .float 100), (1, .ref 0), (2, .ref 55), (3, .int x3)] [.int v] X1 (u.1 + 0, u.2 + 0) Q
  refine ev_aload_n (x := 55) (pc := 829) d_lw_law_829 rfl ?_
  refine ev_aload_nS (x := 100) (pc := 830) d_lw_law_830 rfl ?_
  refine ev_iload_n (x := x3) (pc := 831) d_lw_law_831 rfl ?_
  refine ev_iconst (v := 1) (pc := 832) d_lw_law_832 kc_i_1 ?_
  refine ev_iadd (pc := 833) d_lw_law_833 ?_
  refine ev_scld (pc := 834) d_lw_law_834 (sc_in (j := 1) hx rfl (by decide) hi hL) ?_
  refine ev_aload_nS (x := 100) (pc := 835) d_lw_law_835 rfl ?_
  refine ev_iload_n (x := x3) (pc := 836) d_lw_law_836 rfl ?_
  refine ev_iconst (v := 2) (pc := 837) d_lw_law_837 kc_i_2 ?_
  refine ev_iadd (pc := 838) d_lw_law_838 ?_
  refine ev_scld (pc := 839) d_lw_law_839 (sc_in (j := 2) hx rfl (by decide) hi hL) ?_
  refine ev_callV (z := m_mo_known) (as := [.int (E.2.2 (Int32.toNatClampNeg (x3 + 1))), .int (E.2.2 (Int32.toNatClampNeg (x3 + 2)))]) (rest := [.int v]) (pc := 840) d_lw_law_840 (ly_at hL1 55 rfl) lt13_12 rfl l_lw_90 i_mo_known v_mo_known o_mo_known rfl rfl (Nat.le_of_ble_eq_true rfl) rfl (Nat.le_of_ble_eq_true rfl) hu hev (fun r X2 hq => ?_)
  obtain ⟨rfl, N2, h2⟩ := hq
  show Ev E m_lw_law 843 [(0, .float 100), (1, .ref 0), (2, .ref 55), (3, .int x3)] [.int v, .int v] X2 (u.1 + 0, u.2 + 0) Q
  exact ev_icmp_eq (pc := 843) (tgt := 1771) d_lw_law_843 (by decide) (fun _ => kk N2 S1 X2 h2) (fun c => absurd rfl c)
def PR_need (E : gp_E) : Prop := ∀ {N : Nat → Nat} {S : gp_S} {X : gp_H}, Inv N S X → ∀ x1 x2 x3 x4 : Int32, Ev E m_ga_need 0 [(0, .ref 0), (1, .int x1), (2, .int x2), (3, .int x3), (4, .int x4)] [] X (0, 0) (gp_two E m_mo_need [(0, .ref 55), (1, .int x1), (2, .int x2), (3, .int x3), (4, .int x4)])
theorem lc_need {E : gp_E} {N : Nat → Nat} {S : gp_S} {X : gp_H} {u : Nat × Nat} {Q : Option Value → gp_H → Prop} {i : Nat} {x3 : Int32} (hp : PR_need E) (h : Inv N S X) (hx : x3 = nI i) (hi : i + 6 ≤ E.2.1) (hL : E.2.1 ≤ 3072) (hu : u.1 + 0 ≤ 600000 ∧ u.2 + 0 ≤ 7302250) (kk : ∀ N2 S2 X2, Inv N2 S2 X2 → Ev E m_lw_law 1771 [(0, .float 100), (1, .ref 0), (2, .ref 55), (3, .int x3)] [] X2 (u.1 + 0, u.2 + 0) Q) : Ev E m_lw_law 848 [(0, .float 100), (1, .ref 0), (2, .ref 55), (3, .int x3)] [] X u Q := by
  refine ev_aload_n (x := 0) (pc := 848) d_lw_law_848 rfl ?_
  refine ev_aload_nS (x := 100) (pc := 849) d_lw_law_849 rfl ?_
  refine ev_iload_n (x := x3) (pc := 850) d_lw_law_850 rfl ?_
  refine ev_iconst (v := 1) (pc := 851) d_lw_law_851 kc_i_1 ?_
  refine ev_iadd (pc := 852) d_lw_law_852 ?_
  refine ev_scld (pc := 853) d_lw_law_853 (sc_in (j := 1) hx rfl (by decide) hi hL) ?_
  refine ev_aload_nS (x := 100) (pc := 854) d_lw_law_854 rfl ?_
  refine ev_iload_n (x := x3) (pc := 855) d_lw_law_855 rfl ?_
  refine ev_iconst (v := 2) (pc := 856) d_lw_law_856 kc_i_2 ?_
  refine ev_iadd (pc := 857) d_lw_law_857 ?_
  refine ev_scld (pc := 858) d_lw_law_858 (sc_in (j := 2) hx rfl (by decide) hi hL) ?_
  refine ev_aload_nS (x := 100) (pc := 859) d_lw_law_859 rfl ?_
  refine ev_iload_n (x := x3) (pc := 860) d_lw_law_860 rfl ?_
  refine ev_iconst (v := 3) (pc := 861) d_lw_law_861 kc_i_3 ?_
  refine ev_iadd (pc := 862) d_lw_law_862 ?_
  refine ev_scld (pc := 863) d_lw_law_863 (sc_in (j := 3) hx rfl (by decide) hi hL) ?_
  refine ev_aload_nS (x := 100) (pc := 864) d_lw_law_864 rfl ?_
  refine ev_iload_n (x := x3) (pc := 865) d_lw_law_865 rfl ?_
  refine ev_iconst (v := 4) (pc := 866) d_lw_law_866 kc_i_4 ?_
  refine ev_iadd (pc := 867) d_lw_law_867 ?_
  refine ev_scld (pc := 868) d_lw_law_868 (sc_in (j := 4) hx rfl (by decide) hi hL) ?_
  refine ev_callV (z := m_ga_need) (as := [.int (E.2.2 (Int32.toNatClampNeg (x3 + 1))), .int (E.2.2 (Int32.toNatClampNeg (x3 + 2))), .int (E.2.2 (Int32.toNatClampNeg (x3 + 3))), .int (E.2.2 (Int32.toNatClampNeg (x3 + 4)))]) (rest := []) (pc := 869) d_lw_law_869 (ly_at h.lay 0 rfl) lt13_11 rfl l_lw_91 i_ga_need v_ga_need o_ga_need rfl rfl (Nat.le_of_ble_eq_true rfl) rfl (Nat.le_of_ble_eq_true rfl) hu (hp h (E.2.2 (Int32.toNatClampNeg (x3 + 1))) (E.2.2 (Int32.toNatClampNeg (x3 + 2))) (E.2.2 (Int32.toNatClampNeg (x3 + 3))) (E.2.2 (Int32.toNatClampNeg (x3 + 4)))) (fun r X1 hq => ?_)
  obtain ⟨v, S1, rfl, hL1, hev⟩ := hq
  show Ev E m_lw_law 872 [(0, .float 100), (1, .ref 0), (2, .ref 55), (3, .int x3)] [.int v] X1 (u.1 + 0, u.2 + 0) Q
  refine ev_aload_n (x := 55) (pc := 872) d_lw_law_872 rfl ?_
  refine ev_aload_nS (x := 100) (pc := 873) d_lw_law_873 rfl ?_
  refine ev_iload_n (x := x3) (pc := 874) d_lw_law_874 rfl ?_
  refine ev_iconst (v := 1) (pc := 875) d_lw_law_875 kc_i_1 ?_
  refine ev_iadd (pc := 876) d_lw_law_876 ?_
  refine ev_scld (pc := 877) d_lw_law_877 (sc_in (j := 1) hx rfl (by decide) hi hL) ?_
  refine ev_aload_nS (x := 100) (pc := 878) d_lw_law_878 rfl ?_
  refine ev_iload_n (x := x3) (pc := 879) d_lw_law_879 rfl ?_
  refine ev_iconst (v := 2) (pc := 880) d_lw_law_880 kc_i_2 ?_
  refine ev_iadd (pc := 881) d_lw_law_881 ?_
  refine ev_scld (pc := 882) d_lw_law_882 (sc_in (j := 2) hx rfl (by decide) hi hL) ?_
  refine ev_aload_nS (x := 100) (pc := 883) d_lw_law_883 rfl ?_
  refine ev_iload_n (x := x3) (pc := 884) d_lw_law_884 rfl ?_
  refine ev_iconst (v := 3) (pc := 885) d_lw_law_885 kc_i_3 ?_
  refine ev_iadd (pc := 886) d_lw_law_886 ?_
  refine ev_scld (pc := 887) d_lw_law_887 (sc_in (j := 3) hx rfl (by decide) hi hL) ?_
  refine ev_aload_nS (x := 100) (pc := 888) d_lw_law_888 rfl ?_
  refine ev_iload_n (x := x3) (pc := 889) d_lw_law_889 rfl ?_
  refine ev_iconst (v := 4) (pc := 890) d_lw_law_890 kc_i_4 ?_
  refine ev_iadd (pc := 891) d_lw_law_891 ?_
  refine ev_scld (pc := 892) d_lw_law_892 (sc_in (j := 4) hx rfl (by decide) hi hL) ?_
  refine ev_callV (z := m_mo_need) (as := [.int (E.2.2 (Int32.toNatClampNeg (x3 + 1))), .int (E.2.2 (Int32.toNatClampNeg (x3 + 2))), .int (E.2.2 (Int32.toNatClampNeg (x3 + 3))), .int (E.2.2 (Int32.toNatClampNeg (x3 + 4)))]) (rest := [.int v]) (pc := 893) d_lw_law_893 (ly_at hL1 55 rfl) lt13_12 rfl l_lw_94 i_mo_need v_mo_need o_mo_need rfl rfl (Nat.le_of_ble_eq_true rfl) rfl (Nat.le_of_ble_eq_true rfl) hu hev (fun r X2 hq => ?_)
  obtain ⟨rfl, N2, h2⟩ := hq
  show Ev E m_lw_law 896 [(0, .float 100), (1, .ref 0), (2, .ref 55), (3, .int x3)] [.int v, .int v] X2 (u.1 + 0, u.2 + 0) Q
  exact ev_icmp_eq (pc := 896) (tgt := 1771) d_lw_law_896 (by decide) (fun _ => kk N2 S1 X2 h2) (fun c => absurd rfl c)
def PR_homeOf (E : gp_E) : Prop := ∀ {N : Nat → Nat} {S : gp_S} {X : gp_H}, Inv N S X → ∀ x1 x2 : Int32, Ev E m_ga_homeOf 0 [(0, .ref 0), (1, .int x1), (2, .int x2)] [] X (0, 0) (gp_two E m_mo_homeOf [(0, .ref 55), (1, .int x1), (2, .int x2)])
theorem lc_homeOf {E : gp_E} {N : Nat → Nat} {S : gp_S} {X : gp_H} {u : Nat × Nat} {Q : Option Value → gp_H → Prop} {i : Nat} {x3 : Int32} (hp : PR_homeOf E) (h : Inv N S X) (hx : x3 = nI i) (hi : i + 6 ≤ E.2.1) (hL : E.2.1 ≤ 3072) (hu : u.1 + 0 ≤ 600000 ∧ u.2 + 0 ≤ 7302250) (kk : ∀ N2 S2 X2, Inv N2 S2 X2 → Ev E m_lw_law 1771 [(0, .float 100), (1, .ref 0), (2, .ref 55), (3, .int x3)] [] X2 (u.1 + 0, u.2 + 0) Q) : Ev E m_lw_law 901 [(0, .float 100), (1, .ref 0), (2, .ref 55), (3, .int x3)] [] X u Q := by
  refine ev_aload_n (x := 0) (pc := 901) d_lw_law_901 rfl ?_
  refine ev_aload_nS (x := 100) (pc := 902) d_lw_law_902 rfl ?_
  refine ev_iload_n (x := x3) (pc := 903) d_lw_law_903 rfl ?_
  refine ev_iconst (v := 1) (pc := 904) d_lw_law_904 kc_i_1 ?_
  refine ev_iadd (pc := 905) d_lw_law_905 ?_
  refine ev_scld (pc := 906) d_lw_law_906 (sc_in (j := 1) hx rfl (by decide) hi hL) ?_
  refine ev_aload_nS (x := 100) (pc := 907) d_lw_law_907 rfl ?_
  refine ev_iload_n (x := x3) (pc := 908) d_lw_law_908 rfl ?_
  refine ev_iconst (v := 2) (pc := 909) d_lw_law_909 kc_i_2 ?_
  refine ev_iadd (pc := 910) d_lw_law_910 ?_
  refine ev_scld (pc := 911) d_lw_law_911 (sc_in (j := 2) hx rfl (by decide) hi hL) ?_
  refine ev_callV (z := m_ga_homeOf) (as := [.int (E.2.2 (Int32.toNatClampNeg (x3 + 1))), .int (E.2.2 (Int32.toNatClampNeg (x3 + 2)))]) (rest := []) (pc := 912) d_lw_law_912 (ly_at h.lay 0 rfl) lt13_11 rfl l_lw_95 i_ga_homeOf v_ga_homeOf o_ga_homeOf rfl rfl (Nat.le_of_ble_eq_true rfl) rfl (Nat.le_of_ble_eq_true rfl) hu (hp h (E.2.2 (Int32.toNatClampNeg (x3 + 1))) (E.2.2 (Int32.toNatClampNeg (x3 + 2)))) (fun r X1 hq => ?_)
  obtain ⟨v, S1, rfl, hL1, hev⟩ := hq
  show Ev E m_lw_law 915 [(0, .float 100), (1, .ref 0), (2, .ref 55), (3, .int x3)] [.int v] X1 (u.1 + 0, u.2 + 0) Q
  refine ev_aload_n (x := 55) (pc := 915) d_lw_law_915 rfl ?_
  refine ev_aload_nS (x := 100) (pc := 916) d_lw_law_916 rfl ?_
  refine ev_iload_n (x := x3) (pc := 917) d_lw_law_917 rfl ?_
  refine ev_iconst (v := 1) (pc := 918) d_lw_law_918 kc_i_1 ?_
  refine ev_iadd (pc := 919) d_lw_law_919 ?_
  refine ev_scld (pc := 920) d_lw_law_920 (sc_in (j := 1) hx rfl (by decide) hi hL) ?_
  refine ev_aload_nS (x := 100) (pc := 921) d_lw_law_921 rfl ?_
  refine ev_iload_n (x := x3) (pc := 922) d_lw_law_922 rfl ?_
  refine ev_iconst (v := 2) (pc := 923) d_lw_law_923 kc_i_2 ?_
  refine ev_iadd (pc := 924) d_lw_law_924 ?_
  refine ev_scld (pc := 925) d_lw_law_925 (sc_in (j := 2) hx rfl (by decide) hi hL) ?_
  refine ev_callV (z := m_mo_homeOf) (as := [.int (E.2.2 (Int32.toNatClampNeg (x3 + 1))), .int (E.2.2 (Int32.toNatClampNeg (x3 + 2)))]) (rest := [.int v]) (pc := 926) d_lw_law_926 (ly_at hL1 55 rfl) lt13_12 rfl l_lw_98 i_mo_homeOf v_mo_homeOf o_mo_homeOf rfl rfl (Nat.le_of_ble_eq_true rfl) rfl (Nat.le_of_ble_eq_true rfl) hu hev (fun r X2 hq => ?_)
  obtain ⟨rfl, N2, h2⟩ := hq
  show Ev E m_lw_law 929 [(0, .float 100), (1, .ref 0), (2, .ref 55), (3, .int x3)] [.int v, .int v] X2 (u.1 + 0, u.2 + 0) Q
  exact ev_icmp_eq (pc := 929) (tgt := 1771) d_lw_law_929 (by decide) (fun _ => kk N2 S1 X2 h2) (fun c => absurd rfl c)
def PR_stock (E : gp_E) : Prop := ∀ {N : Nat → Nat} {S : gp_S} {X : gp_H}, Inv N S X → ∀ x1 x2 : Int32, Ev E m_ga_stock 0 [(0, .ref 0), (1, .int x1), (2, .int x2)] [] X (0, 0) (gp_two E m_mo_stock [(0, .ref 55), (1, .int x1), (2, .int x2)])
theorem lc_stock {E : gp_E} {N : Nat → Nat} {S : gp_S} {X : gp_H} {u : Nat × Nat} {Q : Option Value → gp_H → Prop} {i : Nat} {x3 : Int32} (hp : PR_stock E) (h : Inv N S X) (hx : x3 = nI i) (hi : i + 6 ≤ E.2.1) (hL : E.2.1 ≤ 3072) (hu : u.1 + 0 ≤ 600000 ∧ u.2 + 0 ≤ 7302250) (kk : ∀ N2 S2 X2, Inv N2 S2 X2 → Ev E m_lw_law 1771 [(0, .float 100), (1, .ref 0), (2, .ref 55), (3, .int x3)] [] X2 (u.1 + 0, u.2 + 0) Q) : Ev E m_lw_law 934 [(0, .float 100), (1, .ref 0), (2, .ref 55), (3, .int x3)] [] X u Q := by
  refine ev_aload_n (x := 0) (pc := 934) d_lw_law_934 rfl ?_
  refine ev_aload_nS (x := 100) (pc := 935) d_lw_law_935 rfl ?_
  refine ev_iload_n (x := x3) (pc := 936) d_lw_law_936 rfl ?_
  refine ev_iconst (v := 1) (pc := 937) d_lw_law_937 kc_i_1 ?_
  refine ev_iadd (pc := 938) d_lw_law_938 ?_
  refine ev_scld (pc := 939) d_lw_law_939 (sc_in (j := 1) hx rfl (by decide) hi hL) ?_
  refine ev_aload_nS (x := 100) (pc := 940) d_lw_law_940 rfl ?_
  refine ev_iload_n (x := x3) (pc := 941) d_lw_law_941 rfl ?_
  refine ev_iconst (v := 2) (pc := 942) d_lw_law_942 kc_i_2 ?_
  refine ev_iadd (pc := 943) d_lw_law_943 ?_
  refine ev_scld (pc := 944) d_lw_law_944 (sc_in (j := 2) hx rfl (by decide) hi hL) ?_
  refine ev_callV (z := m_ga_stock) (as := [.int (E.2.2 (Int32.toNatClampNeg (x3 + 1))), .int (E.2.2 (Int32.toNatClampNeg (x3 + 2)))]) (rest := []) (pc := 945) d_lw_law_945 (ly_at h.lay 0 rfl) lt13_11 rfl l_lw_99 i_ga_stock v_ga_stock o_ga_stock rfl rfl (Nat.le_of_ble_eq_true rfl) rfl (Nat.le_of_ble_eq_true rfl) hu (hp h (E.2.2 (Int32.toNatClampNeg (x3 + 1))) (E.2.2 (Int32.toNatClampNeg (x3 + 2)))) (fun r X1 hq => ?_)
  obtain ⟨v, S1, rfl, hL1, hev⟩ := hq
  show Ev E m_lw_law 948 [(0, .float 100), (1, .ref 0), (2, .ref 55), (3, .int x3)] [.int v] X1 (u.1 + 0, u.2 + 0) Q
  refine ev_aload_n (x := 55) (pc := 948) d_lw_law_948 rfl ?_
  refine ev_aload_nS (x := 100) (pc := 949) d_lw_law_949 rfl ?_
  refine ev_iload_n (x := x3) (pc := 950) d_lw_law_950 rfl ?_
  refine ev_iconst (v := 1) (pc := 951) d_lw_law_951 kc_i_1 ?_
  refine ev_iadd (pc := 952) d_lw_law_952 ?_
  refine ev_scld (pc := 953) d_lw_law_953 (sc_in (j := 1) hx rfl (by decide) hi hL) ?_
  refine ev_aload_nS (x := 100) (pc := 954) d_lw_law_954 rfl ?_
  refine ev_iload_n (x := x3) (pc := 955) d_lw_law_955 rfl ?_
  refine ev_iconst (v := 2) (pc := 956) d_lw_law_956 kc_i_2 ?_
  refine ev_iadd (pc := 957) d_lw_law_957 ?_
  refine ev_scld (pc := 958) d_lw_law_958 (sc_in (j := 2) hx rfl (by decide) hi hL) ?_
  refine ev_callV (z := m_mo_stock) (as := [.int (E.2.2 (Int32.toNatClampNeg (x3 + 1))), .int (E.2.2 (Int32.toNatClampNeg (x3 + 2)))]) (rest := [.int v]) (pc := 959) d_lw_law_959 (ly_at hL1 55 rfl) lt13_12 rfl l_lw_102 i_mo_stock v_mo_stock o_mo_stock rfl rfl (Nat.le_of_ble_eq_true rfl) rfl (Nat.le_of_ble_eq_true rfl) hu hev (fun r X2 hq => ?_)
  obtain ⟨rfl, N2, h2⟩ := hq
  show Ev E m_lw_law 962 [(0, .float 100), (1, .ref 0), (2, .ref 55), (3, .int x3)] [.int v, .int v] X2 (u.1 + 0, u.2 + 0) Q
  exact ev_icmp_eq (pc := 962) (tgt := 1771) d_lw_law_962 (by decide) (fun _ => kk N2 S1 X2 h2) (fun c => absurd rfl c)
def PR_order (E : gp_E) : Prop := ∀ {N : Nat → Nat} {S : gp_S} {X : gp_H}, Inv N S X → ∀ x1 x2 x3 : Int32, Ev E m_ga_order 0 [(0, .ref 0), (1, .int x1), (2, .int x2), (3, .int x3)] [] X (0, 0) (gp_two E m_mo_order [(0, .ref 55), (1, .int x1), (2, .int x2), (3, .int x3)])
theorem lc_order {E : gp_E} {N : Nat → Nat} {S : gp_S} {X : gp_H} {u : Nat × Nat} {Q : Option Value → gp_H → Prop} {i : Nat} {x3 : Int32} (hp : PR_order E) (h : Inv N S X) (hx : x3 = nI i) (hi : i + 6 ≤ E.2.1) (hL : E.2.1 ≤ 3072) (hu : u.1 + 0 ≤ 600000 ∧ u.2 + 0 ≤ 7302250) (kk : ∀ N2 S2 X2, Inv N2 S2 X2 → Ev E m_lw_law 1771 [(0, .float 100), (1, .ref 0), (2, .ref 55), (3, .int x3)] [] X2 (u.1 + 0, u.2 + 0) Q) : Ev E m_lw_law 967 [(0, .float 100), (1, .ref 0), (2, .ref 55), (3, .int x3)] [] X u Q := by
  refine ev_aload_n (x := 0) (pc := 967) d_lw_law_967 rfl ?_
  refine ev_aload_nS (x := 100) (pc := 968) d_lw_law_968 rfl ?_
  refine ev_iload_n (x := x3) (pc := 969) d_lw_law_969 rfl ?_
  refine ev_iconst (v := 1) (pc := 970) d_lw_law_970 kc_i_1 ?_
  refine ev_iadd (pc := 971) d_lw_law_971 ?_
  refine ev_scld (pc := 972) d_lw_law_972 (sc_in (j := 1) hx rfl (by decide) hi hL) ?_
  refine ev_aload_nS (x := 100) (pc := 973) d_lw_law_973 rfl ?_
  refine ev_iload_n (x := x3) (pc := 974) d_lw_law_974 rfl ?_
  refine ev_iconst (v := 2) (pc := 975) d_lw_law_975 kc_i_2 ?_
  refine ev_iadd (pc := 976) d_lw_law_976 ?_
  refine ev_scld (pc := 977) d_lw_law_977 (sc_in (j := 2) hx rfl (by decide) hi hL) ?_
  refine ev_aload_nS (x := 100) (pc := 978) d_lw_law_978 rfl ?_
  refine ev_iload_n (x := x3) (pc := 979) d_lw_law_979 rfl ?_
  refine ev_iconst (v := 3) (pc := 980) d_lw_law_980 kc_i_3 ?_
  refine ev_iadd (pc := 981) d_lw_law_981 ?_
  refine ev_scld (pc := 982) d_lw_law_982 (sc_in (j := 3) hx rfl (by decide) hi hL) ?_
  refine ev_callV (z := m_ga_order) (as := [.int (E.2.2 (Int32.toNatClampNeg (x3 + 1))), .int (E.2.2 (Int32.toNatClampNeg (x3 + 2))), .int (E.2.2 (Int32.toNatClampNeg (x3 + 3)))]) (rest := []) (pc := 983) d_lw_law_983 (ly_at h.lay 0 rfl) lt13_11 rfl l_lw_103 i_ga_order v_ga_order o_ga_order rfl rfl (Nat.le_of_ble_eq_true rfl) rfl (Nat.le_of_ble_eq_true rfl) hu (hp h (E.2.2 (Int32.toNatClampNeg (x3 + 1))) (E.2.2 (Int32.toNatClampNeg (x3 + 2))) (E.2.2 (Int32.toNatClampNeg (x3 + 3)))) (fun r X1 hq => ?_)
  obtain ⟨v, S1, rfl, hL1, hev⟩ := hq
  show Ev E m_lw_law 986 [(0, .float 100), (1, .ref 0), (2, .ref 55), (3, .int x3)] [.int v] X1 (u.1 + 0, u.2 + 0) Q
  refine ev_aload_n (x := 55) (pc := 986) d_lw_law_986 rfl ?_
  refine ev_aload_nS (x := 100) (pc := 987) d_lw_law_987 rfl ?_
  refine ev_iload_n (x := x3) (pc := 988) d_lw_law_988 rfl ?_
  refine ev_iconst (v := 1) (pc := 989) d_lw_law_989 kc_i_1 ?_
  refine ev_iadd (pc := 990) d_lw_law_990 ?_
  refine ev_scld (pc := 991) d_lw_law_991 (sc_in (j := 1) hx rfl (by decide) hi hL) ?_
  refine ev_aload_nS (x := 100) (pc := 992) d_lw_law_992 rfl ?_
  refine ev_iload_n (x := x3) (pc := 993) d_lw_law_993 rfl ?_
  refine ev_iconst (v := 2) (pc := 994) d_lw_law_994 kc_i_2 ?_
  refine ev_iadd (pc := 995) d_lw_law_995 ?_
  refine ev_scld (pc := 996) d_lw_law_996 (sc_in (j := 2) hx rfl (by decide) hi hL) ?_
  refine ev_aload_nS (x := 100) (pc := 997) d_lw_law_997 rfl ?_
  refine ev_iload_n (x := x3) (pc := 998) d_lw_law_998 rfl ?_
  refine ev_iconst (v := 3) (pc := 999) d_lw_law_999 kc_i_3 ?_
  refine ev_iadd (pc := 1000) d_lw_law_1000 ?_
  refine ev_scld (pc := 1001) d_lw_law_1001 (sc_in (j := 3) hx rfl (by decide) hi hL) ?_
  refine ev_callV (z := m_mo_order) (as := [.int (E.2.2 (Int32.toNatClampNeg (x3 + 1))), .int (E.2.2 (Int32.toNatClampNeg (x3 + 2))), .int (E.2.2 (Int32.toNatClampNeg (x3 + 3)))]) (rest := [.int v]) (pc := 1002) d_lw_law_1002 (ly_at hL1 55 rfl) lt13_12 rfl l_lw_106 i_mo_order v_mo_order o_mo_order rfl rfl (Nat.le_of_ble_eq_true rfl) rfl (Nat.le_of_ble_eq_true rfl) hu hev (fun r X2 hq => ?_)
  obtain ⟨rfl, N2, h2⟩ := hq
  show Ev E m_lw_law 1005 [(0, .float 100), (1, .ref 0), (2, .ref 55), (3, .int x3)] [.int v, .int v] X2 (u.1 + 0, u.2 + 0) Q
  exact ev_icmp_eq (pc := 1005) (tgt := 1771) d_lw_law_1005 (by decide) (fun _ => kk N2 S1 X2 h2) (fun c => absurd rfl c)
def PR_sector (E : gp_E) : Prop := ∀ {N : Nat → Nat} {S : gp_S} {X : gp_H}, Inv N S X → ∀ x1 : Int32, Ev E m_ga_sector 0 [(0, .ref 0), (1, .int x1)] [] X (0, 0) (gp_two E m_mo_sector [(0, .ref 55), (1, .int x1)])
theorem lc_sector {E : gp_E} {N : Nat → Nat} {S : gp_S} {X : gp_H} {u : Nat × Nat} {Q : Option Value → gp_H → Prop} {i : Nat} {x3 : Int32} (hp : PR_sector E) (h : Inv N S X) (hx : x3 = nI i) (hi : i + 6 ≤ E.2.1) (hL : E.2.1 ≤ 3072) (hu : u.1 + 0 ≤ 600000 ∧ u.2 + 0 ≤ 7302250) (kk : ∀ N2 S2 X2, Inv N2 S2 X2 → Ev E m_lw_law 1771 [(0, .float 100), (1, .ref 0), (2, .ref 55), (3, .int x3)] [] X2 (u.1 + 0, u.2 + 0) Q) : Ev E m_lw_law 1010 [(0, .float 100), (1, .ref 0), (2, .ref 55), (3, .int x3)] [] X u Q := by
  refine ev_aload_n (x := 0) (pc := 1010) d_lw_law_1010 rfl ?_
  refine ev_aload_nS (x := 100) (pc := 1011) d_lw_law_1011 rfl ?_
  refine ev_iload_n (x := x3) (pc := 1012) d_lw_law_1012 rfl ?_
  refine ev_iconst (v := 1) (pc := 1013) d_lw_law_1013 kc_i_1 ?_
  refine ev_iadd (pc := 1014) d_lw_law_1014 ?_
  refine ev_scld (pc := 1015) d_lw_law_1015 (sc_in (j := 1) hx rfl (by decide) hi hL) ?_
  refine ev_callV (z := m_ga_sector) (as := [.int (E.2.2 (Int32.toNatClampNeg (x3 + 1)))]) (rest := []) (pc := 1016) d_lw_law_1016 (ly_at h.lay 0 rfl) lt13_11 rfl l_lw_107 i_ga_sector v_ga_sector o_ga_sector rfl rfl (Nat.le_of_ble_eq_true rfl) rfl (Nat.le_of_ble_eq_true rfl) hu (hp h (E.2.2 (Int32.toNatClampNeg (x3 + 1)))) (fun r X1 hq => ?_)
  obtain ⟨v, S1, rfl, hL1, hev⟩ := hq
  show Ev E m_lw_law 1019 [(0, .float 100), (1, .ref 0), (2, .ref 55), (3, .int x3)] [.int v] X1 (u.1 + 0, u.2 + 0) Q
  refine ev_aload_n (x := 55) (pc := 1019) d_lw_law_1019 rfl ?_
  refine ev_aload_nS (x := 100) (pc := 1020) d_lw_law_1020 rfl ?_
  refine ev_iload_n (x := x3) (pc := 1021) d_lw_law_1021 rfl ?_
  refine ev_iconst (v := 1) (pc := 1022) d_lw_law_1022 kc_i_1 ?_
  refine ev_iadd (pc := 1023) d_lw_law_1023 ?_
  refine ev_scld (pc := 1024) d_lw_law_1024 (sc_in (j := 1) hx rfl (by decide) hi hL) ?_
  refine ev_callV (z := m_mo_sector) (as := [.int (E.2.2 (Int32.toNatClampNeg (x3 + 1)))]) (rest := [.int v]) (pc := 1025) d_lw_law_1025 (ly_at hL1 55 rfl) lt13_12 rfl l_lw_110 i_mo_sector v_mo_sector o_mo_sector rfl rfl (Nat.le_of_ble_eq_true rfl) rfl (Nat.le_of_ble_eq_true rfl) hu hev (fun r X2 hq => ?_)
  obtain ⟨rfl, N2, h2⟩ := hq
  show Ev E m_lw_law 1028 [(0, .float 100), (1, .ref 0), (2, .ref 55), (3, .int x3)] [.int v, .int v] X2 (u.1 + 0, u.2 + 0) Q
  exact ev_icmp_eq (pc := 1028) (tgt := 1771) d_lw_law_1028 (by decide) (fun _ => kk N2 S1 X2 h2) (fun c => absurd rfl c)
def PR_why (E : gp_E) : Prop := ∀ {N : Nat → Nat} {S : gp_S} {X : gp_H}, Inv N S X → ∀ x1 : Int32, Ev E m_ga_why 0 [(0, .ref 0), (1, .int x1)] [] X (0, 0) (gp_two E m_mo_why [(0, .ref 55), (1, .int x1)])
theorem lc_why {E : gp_E} {N : Nat → Nat} {S : gp_S} {X : gp_H} {u : Nat × Nat} {Q : Option Value → gp_H → Prop} {i : Nat} {x3 : Int32} (hp : PR_why E) (h : Inv N S X) (hx : x3 = nI i) (hi : i + 6 ≤ E.2.1) (hL : E.2.1 ≤ 3072) (hu : u.1 + 0 ≤ 600000 ∧ u.2 + 0 ≤ 7302250) (kk : ∀ N2 S2 X2, Inv N2 S2 X2 → Ev E m_lw_law 1771 [(0, .float 100), (1, .ref 0), (2, .ref 55), (3, .int x3)] [] X2 (u.1 + 0, u.2 + 0) Q) : Ev E m_lw_law 1033 [(0, .float 100), (1, .ref 0), (2, .ref 55), (3, .int x3)] [] X u Q := by
  refine ev_aload_n (x := 0) (pc := 1033) d_lw_law_1033 rfl ?_
  refine ev_aload_nS (x := 100) (pc := 1034) d_lw_law_1034 rfl ?_
  refine ev_iload_n (x := x3) (pc := 1035) d_lw_law_1035 rfl ?_
  refine ev_iconst (v := 1) (pc := 1036) d_lw_law_1036 kc_i_1 ?_
  refine ev_iadd (pc := 1037) d_lw_law_1037 ?_
  refine ev_scld (pc := 1038) d_lw_law_1038 (sc_in (j := 1) hx rfl (by decide) hi hL) ?_
  refine ev_callV (z := m_ga_why) (as := [.int (E.2.2 (Int32.toNatClampNeg (x3 + 1)))]) (rest := []) (pc := 1039) d_lw_law_1039 (ly_at h.lay 0 rfl) lt13_11 rfl l_lw_111 i_ga_why v_ga_why o_ga_why rfl rfl (Nat.le_of_ble_eq_true rfl) rfl (Nat.le_of_ble_eq_true rfl) hu (hp h (E.2.2 (Int32.toNatClampNeg (x3 + 1)))) (fun r X1 hq => ?_)
  obtain ⟨v, S1, rfl, hL1, hev⟩ := hq
  show Ev E m_lw_law 1042 [(0, .float 100), (1, .ref 0), (2, .ref 55), (3, .int x3)] [.int v] X1 (u.1 + 0, u.2 + 0) Q
  refine ev_aload_n (x := 55) (pc := 1042) d_lw_law_1042 rfl ?_
  refine ev_aload_nS (x := 100) (pc := 1043) d_lw_law_1043 rfl ?_
  refine ev_iload_n (x := x3) (pc := 1044) d_lw_law_1044 rfl ?_
  refine ev_iconst (v := 1) (pc := 1045) d_lw_law_1045 kc_i_1 ?_
  refine ev_iadd (pc := 1046) d_lw_law_1046 ?_
  refine ev_scld (pc := 1047) d_lw_law_1047 (sc_in (j := 1) hx rfl (by decide) hi hL) ?_
  refine ev_callV (z := m_mo_why) (as := [.int (E.2.2 (Int32.toNatClampNeg (x3 + 1)))]) (rest := [.int v]) (pc := 1048) d_lw_law_1048 (ly_at hL1 55 rfl) lt13_12 rfl l_lw_114 i_mo_why v_mo_why o_mo_why rfl rfl (Nat.le_of_ble_eq_true rfl) rfl (Nat.le_of_ble_eq_true rfl) hu hev (fun r X2 hq => ?_)
  obtain ⟨rfl, N2, h2⟩ := hq
  show Ev E m_lw_law 1051 [(0, .float 100), (1, .ref 0), (2, .ref 55), (3, .int x3)] [.int v, .int v] X2 (u.1 + 0, u.2 + 0) Q
  exact ev_icmp_eq (pc := 1051) (tgt := 1771) d_lw_law_1051 (by decide) (fun _ => kk N2 S1 X2 h2) (fun c => absurd rfl c)
def PR_best (E : gp_E) : Prop := ∀ {N : Nat → Nat} {S : gp_S} {X : gp_H}, Inv N S X → Ev E m_ga_best 0 [(0, .ref 0)] [] X (0, 0) (gp_two E m_mo_best [(0, .ref 55)])
theorem lc_best {E : gp_E} {N : Nat → Nat} {S : gp_S} {X : gp_H} {u : Nat × Nat} {Q : Option Value → gp_H → Prop} {i : Nat} {x3 : Int32} (hp : PR_best E) (h : Inv N S X) (hx : x3 = nI i) (hi : i + 6 ≤ E.2.1) (hL : E.2.1 ≤ 3072) (hu : u.1 + 0 ≤ 600000 ∧ u.2 + 0 ≤ 7302250) (kk : ∀ N2 S2 X2, Inv N2 S2 X2 → Ev E m_lw_law 1771 [(0, .float 100), (1, .ref 0), (2, .ref 55), (3, .int x3)] [] X2 (u.1 + 0, u.2 + 0) Q) : Ev E m_lw_law 1056 [(0, .float 100), (1, .ref 0), (2, .ref 55), (3, .int x3)] [] X u Q := by
  refine ev_aload_n (x := 0) (pc := 1056) d_lw_law_1056 rfl ?_
  refine ev_callV (z := m_ga_best) (as := []) (rest := []) (pc := 1057) d_lw_law_1057 (ly_at h.lay 0 rfl) lt13_11 rfl l_lw_115 i_ga_best v_ga_best o_ga_best rfl rfl (Nat.le_of_ble_eq_true rfl) rfl (Nat.le_of_ble_eq_true rfl) hu (hp h) (fun r X1 hq => ?_)
  obtain ⟨v, S1, rfl, hL1, hev⟩ := hq
  show Ev E m_lw_law 1060 [(0, .float 100), (1, .ref 0), (2, .ref 55), (3, .int x3)] [.int v] X1 (u.1 + 0, u.2 + 0) Q
  refine ev_aload_n (x := 55) (pc := 1060) d_lw_law_1060 rfl ?_
  refine ev_callV (z := m_mo_best) (as := []) (rest := [.int v]) (pc := 1061) d_lw_law_1061 (ly_at hL1 55 rfl) lt13_12 rfl l_lw_118 i_mo_best v_mo_best o_mo_best rfl rfl (Nat.le_of_ble_eq_true rfl) rfl (Nat.le_of_ble_eq_true rfl) hu hev (fun r X2 hq => ?_)
  obtain ⟨rfl, N2, h2⟩ := hq
  show Ev E m_lw_law 1064 [(0, .float 100), (1, .ref 0), (2, .ref 55), (3, .int x3)] [.int v, .int v] X2 (u.1 + 0, u.2 + 0) Q
  exact ev_icmp_eq (pc := 1064) (tgt := 1771) d_lw_law_1064 (by decide) (fun _ => kk N2 S1 X2 h2) (fun c => absurd rfl c)
def PR_bestAt (E : gp_E) : Prop := ∀ {N : Nat → Nat} {S : gp_S} {X : gp_H}, Inv N S X → ∀ x1 : Int32, Ev E m_ga_bestAt 0 [(0, .ref 0), (1, .int x1)] [] X (0, 0) (gp_two E m_mo_bestAt [(0, .ref 55), (1, .int x1)])
theorem lc_bestAt {E : gp_E} {N : Nat → Nat} {S : gp_S} {X : gp_H} {u : Nat × Nat} {Q : Option Value → gp_H → Prop} {i : Nat} {x3 : Int32} (hp : PR_bestAt E) (h : Inv N S X) (hx : x3 = nI i) (hi : i + 6 ≤ E.2.1) (hL : E.2.1 ≤ 3072) (hu : u.1 + 0 ≤ 600000 ∧ u.2 + 0 ≤ 7302250) (kk : ∀ N2 S2 X2, Inv N2 S2 X2 → Ev E m_lw_law 1771 [(0, .float 100), (1, .ref 0), (2, .ref 55), (3, .int x3)] [] X2 (u.1 + 0, u.2 + 0) Q) : Ev E m_lw_law 1069 [(0, .float 100), (1, .ref 0), (2, .ref 55), (3, .int x3)] [] X u Q := by
  refine ev_aload_n (x := 0) (pc := 1069) d_lw_law_1069 rfl ?_
  refine ev_aload_nS (x := 100) (pc := 1070) d_lw_law_1070 rfl ?_
  refine ev_iload_n (x := x3) (pc := 1071) d_lw_law_1071 rfl ?_
  refine ev_iconst (v := 1) (pc := 1072) d_lw_law_1072 kc_i_1 ?_
  refine ev_iadd (pc := 1073) d_lw_law_1073 ?_
  refine ev_scld (pc := 1074) d_lw_law_1074 (sc_in (j := 1) hx rfl (by decide) hi hL) ?_
  refine ev_callV (z := m_ga_bestAt) (as := [.int (E.2.2 (Int32.toNatClampNeg (x3 + 1)))]) (rest := []) (pc := 1075) d_lw_law_1075 (ly_at h.lay 0 rfl) lt13_11 rfl l_lw_119 i_ga_bestAt v_ga_bestAt o_ga_bestAt rfl rfl (Nat.le_of_ble_eq_true rfl) rfl (Nat.le_of_ble_eq_true rfl) hu (hp h (E.2.2 (Int32.toNatClampNeg (x3 + 1)))) (fun r X1 hq => ?_)
  obtain ⟨v, S1, rfl, hL1, hev⟩ := hq
  show Ev E m_lw_law 1078 [(0, .float 100), (1, .ref 0), (2, .ref 55), (3, .int x3)] [.int v] X1 (u.1 + 0, u.2 + 0) Q
  refine ev_aload_n (x := 55) (pc := 1078) d_lw_law_1078 rfl ?_
  refine ev_aload_nS (x := 100) (pc := 1079) d_lw_law_1079 rfl ?_
  refine ev_iload_n (x := x3) (pc := 1080) d_lw_law_1080 rfl ?_
  refine ev_iconst (v := 1) (pc := 1081) d_lw_law_1081 kc_i_1 ?_
  refine ev_iadd (pc := 1082) d_lw_law_1082 ?_
  refine ev_scld (pc := 1083) d_lw_law_1083 (sc_in (j := 1) hx rfl (by decide) hi hL) ?_
  refine ev_callV (z := m_mo_bestAt) (as := [.int (E.2.2 (Int32.toNatClampNeg (x3 + 1)))]) (rest := [.int v]) (pc := 1084) d_lw_law_1084 (ly_at hL1 55 rfl) lt13_12 rfl l_lw_122 i_mo_bestAt v_mo_bestAt o_mo_bestAt rfl rfl (Nat.le_of_ble_eq_true rfl) rfl (Nat.le_of_ble_eq_true rfl) hu hev (fun r X2 hq => ?_)
  obtain ⟨rfl, N2, h2⟩ := hq
  show Ev E m_lw_law 1087 [(0, .float 100), (1, .ref 0), (2, .ref 55), (3, .int x3)] [.int v, .int v] X2 (u.1 + 0, u.2 + 0) Q
  exact ev_icmp_eq (pc := 1087) (tgt := 1771) d_lw_law_1087 (by decide) (fun _ => kk N2 S1 X2 h2) (fun c => absurd rfl c)
def PR_plan (E : gp_E) : Prop := ∀ {N : Nat → Nat} {S : gp_S} {X : gp_H}, Inv N S X → ∀ x1 : Int32, Ev E m_ga_plan 0 [(0, .ref 0), (1, .int x1)] [] X (0, 0) (gp_two E m_mo_plan [(0, .ref 55), (1, .int x1)])
theorem lc_plan {E : gp_E} {N : Nat → Nat} {S : gp_S} {X : gp_H} {u : Nat × Nat} {Q : Option Value → gp_H → Prop} {i : Nat} {x3 : Int32} (hp : PR_plan E) (h : Inv N S X) (hx : x3 = nI i) (hi : i + 6 ≤ E.2.1) (hL : E.2.1 ≤ 3072) (hu : u.1 + 0 ≤ 600000 ∧ u.2 + 0 ≤ 7302250) (kk : ∀ N2 S2 X2, Inv N2 S2 X2 → Ev E m_lw_law 1771 [(0, .float 100), (1, .ref 0), (2, .ref 55), (3, .int x3)] [] X2 (u.1 + 0, u.2 + 0) Q) : Ev E m_lw_law 1092 [(0, .float 100), (1, .ref 0), (2, .ref 55), (3, .int x3)] [] X u Q := by
  refine ev_aload_n (x := 0) (pc := 1092) d_lw_law_1092 rfl ?_
  refine ev_aload_nS (x := 100) (pc := 1093) d_lw_law_1093 rfl ?_
  refine ev_iload_n (x := x3) (pc := 1094) d_lw_law_1094 rfl ?_
  refine ev_iconst (v := 1) (pc := 1095) d_lw_law_1095 kc_i_1 ?_
  refine ev_iadd (pc := 1096) d_lw_law_1096 ?_
  refine ev_scld (pc := 1097) d_lw_law_1097 (sc_in (j := 1) hx rfl (by decide) hi hL) ?_
  refine ev_callV (z := m_ga_plan) (as := [.int (E.2.2 (Int32.toNatClampNeg (x3 + 1)))]) (rest := []) (pc := 1098) d_lw_law_1098 (ly_at h.lay 0 rfl) lt13_11 rfl l_lw_123 i_ga_plan v_ga_plan o_ga_plan rfl rfl (Nat.le_of_ble_eq_true rfl) rfl (Nat.le_of_ble_eq_true rfl) hu (hp h (E.2.2 (Int32.toNatClampNeg (x3 + 1)))) (fun r X1 hq => ?_)
  obtain ⟨v, S1, rfl, hL1, hev⟩ := hq
  show Ev E m_lw_law 1101 [(0, .float 100), (1, .ref 0), (2, .ref 55), (3, .int x3)] [.int v] X1 (u.1 + 0, u.2 + 0) Q
  refine ev_aload_n (x := 55) (pc := 1101) d_lw_law_1101 rfl ?_
  refine ev_aload_nS (x := 100) (pc := 1102) d_lw_law_1102 rfl ?_
  refine ev_iload_n (x := x3) (pc := 1103) d_lw_law_1103 rfl ?_
  refine ev_iconst (v := 1) (pc := 1104) d_lw_law_1104 kc_i_1 ?_
  refine ev_iadd (pc := 1105) d_lw_law_1105 ?_
  refine ev_scld (pc := 1106) d_lw_law_1106 (sc_in (j := 1) hx rfl (by decide) hi hL) ?_
  refine ev_callV (z := m_mo_plan) (as := [.int (E.2.2 (Int32.toNatClampNeg (x3 + 1)))]) (rest := [.int v]) (pc := 1107) d_lw_law_1107 (ly_at hL1 55 rfl) lt13_12 rfl l_lw_126 i_mo_plan v_mo_plan o_mo_plan rfl rfl (Nat.le_of_ble_eq_true rfl) rfl (Nat.le_of_ble_eq_true rfl) hu hev (fun r X2 hq => ?_)
  obtain ⟨rfl, N2, h2⟩ := hq
  show Ev E m_lw_law 1110 [(0, .float 100), (1, .ref 0), (2, .ref 55), (3, .int x3)] [.int v, .int v] X2 (u.1 + 0, u.2 + 0) Q
  exact ev_icmp_eq (pc := 1110) (tgt := 1771) d_lw_law_1110 (by decide) (fun _ => kk N2 S1 X2 h2) (fun c => absurd rfl c)
def PR_unplan (E : gp_E) : Prop := ∀ {N : Nat → Nat} {S : gp_S} {X : gp_H}, Inv N S X → Ev E m_ga_unplan 0 [(0, .ref 0)] [] X (0, 0) (gp_two E m_mo_unplan [(0, .ref 55)])
theorem lc_unplan {E : gp_E} {N : Nat → Nat} {S : gp_S} {X : gp_H} {u : Nat × Nat} {Q : Option Value → gp_H → Prop} {i : Nat} {x3 : Int32} (hp : PR_unplan E) (h : Inv N S X) (hx : x3 = nI i) (hi : i + 6 ≤ E.2.1) (hL : E.2.1 ≤ 3072) (hu : u.1 + 0 ≤ 600000 ∧ u.2 + 0 ≤ 7302250) (kk : ∀ N2 S2 X2, Inv N2 S2 X2 → Ev E m_lw_law 1771 [(0, .float 100), (1, .ref 0), (2, .ref 55), (3, .int x3)] [] X2 (u.1 + 0, u.2 + 0) Q) : Ev E m_lw_law 1115 [(0, .float 100), (1, .ref 0), (2, .ref 55), (3, .int x3)] [] X u Q := by
  refine ev_aload_n (x := 0) (pc := 1115) d_lw_law_1115 rfl ?_
  refine ev_callV (z := m_ga_unplan) (as := []) (rest := []) (pc := 1116) d_lw_law_1116 (ly_at h.lay 0 rfl) lt13_11 rfl l_lw_127 i_ga_unplan v_ga_unplan o_ga_unplan rfl rfl (Nat.le_of_ble_eq_true rfl) rfl (Nat.le_of_ble_eq_true rfl) hu (hp h) (fun r X1 hq => ?_)
  obtain ⟨v, S1, rfl, hL1, hev⟩ := hq
  show Ev E m_lw_law 1119 [(0, .float 100), (1, .ref 0), (2, .ref 55), (3, .int x3)] [.int v] X1 (u.1 + 0, u.2 + 0) Q
  refine ev_aload_n (x := 55) (pc := 1119) d_lw_law_1119 rfl ?_
  refine ev_callV (z := m_mo_unplan) (as := []) (rest := [.int v]) (pc := 1120) d_lw_law_1120 (ly_at hL1 55 rfl) lt13_12 rfl l_lw_130 i_mo_unplan v_mo_unplan o_mo_unplan rfl rfl (Nat.le_of_ble_eq_true rfl) rfl (Nat.le_of_ble_eq_true rfl) hu hev (fun r X2 hq => ?_)
  obtain ⟨rfl, N2, h2⟩ := hq
  show Ev E m_lw_law 1123 [(0, .float 100), (1, .ref 0), (2, .ref 55), (3, .int x3)] [.int v, .int v] X2 (u.1 + 0, u.2 + 0) Q
  exact ev_icmp_eq (pc := 1123) (tgt := 1771) d_lw_law_1123 (by decide) (fun _ => kk N2 S1 X2 h2) (fun c => absurd rfl c)
def PR_shortOf (E : gp_E) : Prop := ∀ {N : Nat → Nat} {S : gp_S} {X : gp_H}, Inv N S X → ∀ x1 x2 : Int32, Ev E m_ga_shortOf 0 [(0, .ref 0), (1, .int x1), (2, .int x2)] [] X (0, 0) (gp_two E m_mo_shortOf [(0, .ref 55), (1, .int x1), (2, .int x2)])
theorem lc_shortOf {E : gp_E} {N : Nat → Nat} {S : gp_S} {X : gp_H} {u : Nat × Nat} {Q : Option Value → gp_H → Prop} {i : Nat} {x3 : Int32} (hp : PR_shortOf E) (h : Inv N S X) (hx : x3 = nI i) (hi : i + 6 ≤ E.2.1) (hL : E.2.1 ≤ 3072) (hu : u.1 + 0 ≤ 600000 ∧ u.2 + 0 ≤ 7302250) (kk : ∀ N2 S2 X2, Inv N2 S2 X2 → Ev E m_lw_law 1771 [(0, .float 100), (1, .ref 0), (2, .ref 55), (3, .int x3)] [] X2 (u.1 + 0, u.2 + 0) Q) : Ev E m_lw_law 1128 [(0, .float 100), (1, .ref 0), (2, .ref 55), (3, .int x3)] [] X u Q := by
  refine ev_aload_n (x := 0) (pc := 1128) d_lw_law_1128 rfl ?_
  refine ev_aload_nS (x := 100) (pc := 1129) d_lw_law_1129 rfl ?_
  refine ev_iload_n (x := x3) (pc := 1130) d_lw_law_1130 rfl ?_
  refine ev_iconst (v := 1) (pc := 1131) d_lw_law_1131 kc_i_1 ?_
  refine ev_iadd (pc := 1132) d_lw_law_1132 ?_
  refine ev_scld (pc := 1133) d_lw_law_1133 (sc_in (j := 1) hx rfl (by decide) hi hL) ?_
  refine ev_aload_nS (x := 100) (pc := 1134) d_lw_law_1134 rfl ?_
  refine ev_iload_n (x := x3) (pc := 1135) d_lw_law_1135 rfl ?_
  refine ev_iconst (v := 2) (pc := 1136) d_lw_law_1136 kc_i_2 ?_
  refine ev_iadd (pc := 1137) d_lw_law_1137 ?_
  refine ev_scld (pc := 1138) d_lw_law_1138 (sc_in (j := 2) hx rfl (by decide) hi hL) ?_
  refine ev_callV (z := m_ga_shortOf) (as := [.int (E.2.2 (Int32.toNatClampNeg (x3 + 1))), .int (E.2.2 (Int32.toNatClampNeg (x3 + 2)))]) (rest := []) (pc := 1139) d_lw_law_1139 (ly_at h.lay 0 rfl) lt13_11 rfl l_lw_131 i_ga_shortOf v_ga_shortOf o_ga_shortOf rfl rfl (Nat.le_of_ble_eq_true rfl) rfl (Nat.le_of_ble_eq_true rfl) hu (hp h (E.2.2 (Int32.toNatClampNeg (x3 + 1))) (E.2.2 (Int32.toNatClampNeg (x3 + 2)))) (fun r X1 hq => ?_)
  obtain ⟨v, S1, rfl, hL1, hev⟩ := hq
  show Ev E m_lw_law 1142 [(0, .float 100), (1, .ref 0), (2, .ref 55), (3, .int x3)] [.int v] X1 (u.1 + 0, u.2 + 0) Q
  refine ev_aload_n (x := 55) (pc := 1142) d_lw_law_1142 rfl ?_
  refine ev_aload_nS (x := 100) (pc := 1143) d_lw_law_1143 rfl ?_
  refine ev_iload_n (x := x3) (pc := 1144) d_lw_law_1144 rfl ?_
  refine ev_iconst (v := 1) (pc := 1145) d_lw_law_1145 kc_i_1 ?_
  refine ev_iadd (pc := 1146) d_lw_law_1146 ?_
  refine ev_scld (pc := 1147) d_lw_law_1147 (sc_in (j := 1) hx rfl (by decide) hi hL) ?_
  refine ev_aload_nS (x := 100) (pc := 1148) d_lw_law_1148 rfl ?_
  refine ev_iload_n (x := x3) (pc := 1149) d_lw_law_1149 rfl ?_
  refine ev_iconst (v := 2) (pc := 1150) d_lw_law_1150 kc_i_2 ?_
  refine ev_iadd (pc := 1151) d_lw_law_1151 ?_
  refine ev_scld (pc := 1152) d_lw_law_1152 (sc_in (j := 2) hx rfl (by decide) hi hL) ?_
  refine ev_callV (z := m_mo_shortOf) (as := [.int (E.2.2 (Int32.toNatClampNeg (x3 + 1))), .int (E.2.2 (Int32.toNatClampNeg (x3 + 2)))]) (rest := [.int v]) (pc := 1153) d_lw_law_1153 (ly_at hL1 55 rfl) lt13_12 rfl l_lw_134 i_mo_shortOf v_mo_shortOf o_mo_shortOf rfl rfl (Nat.le_of_ble_eq_true rfl) rfl (Nat.le_of_ble_eq_true rfl) hu hev (fun r X2 hq => ?_)
  obtain ⟨rfl, N2, h2⟩ := hq
  show Ev E m_lw_law 1156 [(0, .float 100), (1, .ref 0), (2, .ref 55), (3, .int x3)] [.int v, .int v] X2 (u.1 + 0, u.2 + 0) Q
  exact ev_icmp_eq (pc := 1156) (tgt := 1771) d_lw_law_1156 (by decide) (fun _ => kk N2 S1 X2 h2) (fun c => absurd rfl c)
def PR_fitter (E : gp_E) : Prop := ∀ {N : Nat → Nat} {S : gp_S} {X : gp_H}, Inv N S X → ∀ x1 x2 x3 : Int32, Ev E m_ga_fitter 0 [(0, .ref 0), (1, .int x1), (2, .int x2), (3, .int x3)] [] X (0, 0) (gp_two E m_mo_fitter [(0, .ref 55), (1, .int x1), (2, .int x2), (3, .int x3)])
theorem lc_fitter {E : gp_E} {N : Nat → Nat} {S : gp_S} {X : gp_H} {u : Nat × Nat} {Q : Option Value → gp_H → Prop} {i : Nat} {x3 : Int32} (hp : PR_fitter E) (h : Inv N S X) (hx : x3 = nI i) (hi : i + 6 ≤ E.2.1) (hL : E.2.1 ≤ 3072) (hu : u.1 + 0 ≤ 600000 ∧ u.2 + 0 ≤ 7302250) (kk : ∀ N2 S2 X2, Inv N2 S2 X2 → Ev E m_lw_law 1771 [(0, .float 100), (1, .ref 0), (2, .ref 55), (3, .int x3)] [] X2 (u.1 + 0, u.2 + 0) Q) : Ev E m_lw_law 1161 [(0, .float 100), (1, .ref 0), (2, .ref 55), (3, .int x3)] [] X u Q := by
  refine ev_aload_n (x := 0) (pc := 1161) d_lw_law_1161 rfl ?_
  refine ev_aload_nS (x := 100) (pc := 1162) d_lw_law_1162 rfl ?_
  refine ev_iload_n (x := x3) (pc := 1163) d_lw_law_1163 rfl ?_
  refine ev_iconst (v := 1) (pc := 1164) d_lw_law_1164 kc_i_1 ?_
  refine ev_iadd (pc := 1165) d_lw_law_1165 ?_
  refine ev_scld (pc := 1166) d_lw_law_1166 (sc_in (j := 1) hx rfl (by decide) hi hL) ?_
  refine ev_aload_nS (x := 100) (pc := 1167) d_lw_law_1167 rfl ?_
  refine ev_iload_n (x := x3) (pc := 1168) d_lw_law_1168 rfl ?_
  refine ev_iconst (v := 2) (pc := 1169) d_lw_law_1169 kc_i_2 ?_
  refine ev_iadd (pc := 1170) d_lw_law_1170 ?_
  refine ev_scld (pc := 1171) d_lw_law_1171 (sc_in (j := 2) hx rfl (by decide) hi hL) ?_
  refine ev_aload_nS (x := 100) (pc := 1172) d_lw_law_1172 rfl ?_
  refine ev_iload_n (x := x3) (pc := 1173) d_lw_law_1173 rfl ?_
  refine ev_iconst (v := 3) (pc := 1174) d_lw_law_1174 kc_i_3 ?_
  refine ev_iadd (pc := 1175) d_lw_law_1175 ?_
  refine ev_scld (pc := 1176) d_lw_law_1176 (sc_in (j := 3) hx rfl (by decide) hi hL) ?_
  refine ev_callV (z := m_ga_fitter) (as := [.int (E.2.2 (Int32.toNatClampNeg (x3 + 1))), .int (E.2.2 (Int32.toNatClampNeg (x3 + 2))), .int (E.2.2 (Int32.toNatClampNeg (x3 + 3)))]) (rest := []) (pc := 1177) d_lw_law_1177 (ly_at h.lay 0 rfl) lt13_11 rfl l_lw_135 i_ga_fitter v_ga_fitter o_ga_fitter rfl rfl (Nat.le_of_ble_eq_true rfl) rfl (Nat.le_of_ble_eq_true rfl) hu (hp h (E.2.2 (Int32.toNatClampNeg (x3 + 1))) (E.2.2 (Int32.toNatClampNeg (x3 + 2))) (E.2.2 (Int32.toNatClampNeg (x3 + 3)))) (fun r X1 hq => ?_)
  obtain ⟨v, S1, rfl, hL1, hev⟩ := hq
  show Ev E m_lw_law 1180 [(0, .float 100), (1, .ref 0), (2, .ref 55), (3, .int x3)] [.int v] X1 (u.1 + 0, u.2 + 0) Q
  refine ev_aload_n (x := 55) (pc := 1180) d_lw_law_1180 rfl ?_
  refine ev_aload_nS (x := 100) (pc := 1181) d_lw_law_1181 rfl ?_
  refine ev_iload_n (x := x3) (pc := 1182) d_lw_law_1182 rfl ?_
  refine ev_iconst (v := 1) (pc := 1183) d_lw_law_1183 kc_i_1 ?_
  refine ev_iadd (pc := 1184) d_lw_law_1184 ?_
  refine ev_scld (pc := 1185) d_lw_law_1185 (sc_in (j := 1) hx rfl (by decide) hi hL) ?_
  refine ev_aload_nS (x := 100) (pc := 1186) d_lw_law_1186 rfl ?_
  refine ev_iload_n (x := x3) (pc := 1187) d_lw_law_1187 rfl ?_
  refine ev_iconst (v := 2) (pc := 1188) d_lw_law_1188 kc_i_2 ?_
  refine ev_iadd (pc := 1189) d_lw_law_1189 ?_
  refine ev_scld (pc := 1190) d_lw_law_1190 (sc_in (j := 2) hx rfl (by decide) hi hL) ?_
  refine ev_aload_nS (x := 100) (pc := 1191) d_lw_law_1191 rfl ?_
  refine ev_iload_n (x := x3) (pc := 1192) d_lw_law_1192 rfl ?_
  refine ev_iconst (v := 3) (pc := 1193) d_lw_law_1193 kc_i_3 ?_
  refine ev_iadd (pc := 1194) d_lw_law_1194 ?_
  refine ev_scld (pc := 1195) d_lw_law_1195 (sc_in (j := 3) hx rfl (by decide) hi hL) ?_
  refine ev_callV (z := m_mo_fitter) (as := [.int (E.2.2 (Int32.toNatClampNeg (x3 + 1))), .int (E.2.2 (Int32.toNatClampNeg (x3 + 2))), .int (E.2.2 (Int32.toNatClampNeg (x3 + 3)))]) (rest := [.int v]) (pc := 1196) d_lw_law_1196 (ly_at hL1 55 rfl) lt13_12 rfl l_lw_138 i_mo_fitter v_mo_fitter o_mo_fitter rfl rfl (Nat.le_of_ble_eq_true rfl) rfl (Nat.le_of_ble_eq_true rfl) hu hev (fun r X2 hq => ?_)
  obtain ⟨rfl, N2, h2⟩ := hq
  show Ev E m_lw_law 1199 [(0, .float 100), (1, .ref 0), (2, .ref 55), (3, .int x3)] [.int v, .int v] X2 (u.1 + 0, u.2 + 0) Q
  exact ev_icmp_eq (pc := 1199) (tgt := 1771) d_lw_law_1199 (by decide) (fun _ => kk N2 S1 X2 h2) (fun c => absurd rfl c)
def PR_change (E : gp_E) : Prop := ∀ {N : Nat → Nat} {S : gp_S} {X : gp_H}, Inv N S X → ∀ x1 : Int32, Ev E m_ga_change 0 [(0, .ref 0), (1, .int x1)] [] X (0, 0) (gp_two E m_mo_change [(0, .ref 55), (1, .int x1)])
theorem lc_change {E : gp_E} {N : Nat → Nat} {S : gp_S} {X : gp_H} {u : Nat × Nat} {Q : Option Value → gp_H → Prop} {i : Nat} {x3 : Int32} (hp : PR_change E) (h : Inv N S X) (hx : x3 = nI i) (hi : i + 6 ≤ E.2.1) (hL : E.2.1 ≤ 3072) (hu : u.1 + 0 ≤ 600000 ∧ u.2 + 0 ≤ 7302250) (kk : ∀ N2 S2 X2, Inv N2 S2 X2 → Ev E m_lw_law 1771 [(0, .float 100), (1, .ref 0), (2, .ref 55), (3, .int x3)] [] X2 (u.1 + 0, u.2 + 0) Q) : Ev E m_lw_law 1204 [(0, .float 100), (1, .ref 0), (2, .ref 55), (3, .int x3)] [] X u Q := by
  refine ev_aload_n (x := 0) (pc := 1204) d_lw_law_1204 rfl ?_
  refine ev_aload_nS (x := 100) (pc := 1205) d_lw_law_1205 rfl ?_
  refine ev_iload_n (x := x3) (pc := 1206) d_lw_law_1206 rfl ?_
  refine ev_iconst (v := 1) (pc := 1207) d_lw_law_1207 kc_i_1 ?_
  refine ev_iadd (pc := 1208) d_lw_law_1208 ?_
  refine ev_scld (pc := 1209) d_lw_law_1209 (sc_in (j := 1) hx rfl (by decide) hi hL) ?_
  refine ev_callV (z := m_ga_change) (as := [.int (E.2.2 (Int32.toNatClampNeg (x3 + 1)))]) (rest := []) (pc := 1210) d_lw_law_1210 (ly_at h.lay 0 rfl) lt13_11 rfl l_lw_139 i_ga_change v_ga_change o_ga_change rfl rfl (Nat.le_of_ble_eq_true rfl) rfl (Nat.le_of_ble_eq_true rfl) hu (hp h (E.2.2 (Int32.toNatClampNeg (x3 + 1)))) (fun r X1 hq => ?_)
  obtain ⟨v, S1, rfl, hL1, hev⟩ := hq
  show Ev E m_lw_law 1213 [(0, .float 100), (1, .ref 0), (2, .ref 55), (3, .int x3)] [.int v] X1 (u.1 + 0, u.2 + 0) Q
  refine ev_aload_n (x := 55) (pc := 1213) d_lw_law_1213 rfl ?_
  refine ev_aload_nS (x := 100) (pc := 1214) d_lw_law_1214 rfl ?_
  refine ev_iload_n (x := x3) (pc := 1215) d_lw_law_1215 rfl ?_
  refine ev_iconst (v := 1) (pc := 1216) d_lw_law_1216 kc_i_1 ?_
  refine ev_iadd (pc := 1217) d_lw_law_1217 ?_
  refine ev_scld (pc := 1218) d_lw_law_1218 (sc_in (j := 1) hx rfl (by decide) hi hL) ?_
  refine ev_callV (z := m_mo_change) (as := [.int (E.2.2 (Int32.toNatClampNeg (x3 + 1)))]) (rest := [.int v]) (pc := 1219) d_lw_law_1219 (ly_at hL1 55 rfl) lt13_12 rfl l_lw_142 i_mo_change v_mo_change o_mo_change rfl rfl (Nat.le_of_ble_eq_true rfl) rfl (Nat.le_of_ble_eq_true rfl) hu hev (fun r X2 hq => ?_)
  obtain ⟨rfl, N2, h2⟩ := hq
  show Ev E m_lw_law 1222 [(0, .float 100), (1, .ref 0), (2, .ref 55), (3, .int x3)] [.int v, .int v] X2 (u.1 + 0, u.2 + 0) Q
  exact ev_icmp_eq (pc := 1222) (tgt := 1771) d_lw_law_1222 (by decide) (fun _ => kk N2 S1 X2 h2) (fun c => absurd rfl c)
def PR_week (E : gp_E) : Prop := ∀ {N : Nat → Nat} {S : gp_S} {X : gp_H}, Inv N S X → Ev E m_ga_week 0 [(0, .ref 0)] [] X (0, 0) (gp_two E m_mo_week [(0, .ref 55)])
theorem lc_week {E : gp_E} {N : Nat → Nat} {S : gp_S} {X : gp_H} {u : Nat × Nat} {Q : Option Value → gp_H → Prop} {i : Nat} {x3 : Int32} (hp : PR_week E) (h : Inv N S X) (hx : x3 = nI i) (hi : i + 6 ≤ E.2.1) (hL : E.2.1 ≤ 3072) (hu : u.1 + 0 ≤ 600000 ∧ u.2 + 0 ≤ 7302250) (kk : ∀ N2 S2 X2, Inv N2 S2 X2 → Ev E m_lw_law 1771 [(0, .float 100), (1, .ref 0), (2, .ref 55), (3, .int x3)] [] X2 (u.1 + 0, u.2 + 0) Q) : Ev E m_lw_law 1227 [(0, .float 100), (1, .ref 0), (2, .ref 55), (3, .int x3)] [] X u Q := by
  refine ev_aload_n (x := 0) (pc := 1227) d_lw_law_1227 rfl ?_
  refine ev_callV (z := m_ga_week) (as := []) (rest := []) (pc := 1228) d_lw_law_1228 (ly_at h.lay 0 rfl) lt13_11 rfl l_lw_143 i_ga_week v_ga_week o_ga_week rfl rfl (Nat.le_of_ble_eq_true rfl) rfl (Nat.le_of_ble_eq_true rfl) hu (hp h) (fun r X1 hq => ?_)
  obtain ⟨v, S1, rfl, hL1, hev⟩ := hq
  show Ev E m_lw_law 1231 [(0, .float 100), (1, .ref 0), (2, .ref 55), (3, .int x3)] [.int v] X1 (u.1 + 0, u.2 + 0) Q
  refine ev_aload_n (x := 55) (pc := 1231) d_lw_law_1231 rfl ?_
  refine ev_callV (z := m_mo_week) (as := []) (rest := [.int v]) (pc := 1232) d_lw_law_1232 (ly_at hL1 55 rfl) lt13_12 rfl l_lw_146 i_mo_week v_mo_week o_mo_week rfl rfl (Nat.le_of_ble_eq_true rfl) rfl (Nat.le_of_ble_eq_true rfl) hu hev (fun r X2 hq => ?_)
  obtain ⟨rfl, N2, h2⟩ := hq
  show Ev E m_lw_law 1235 [(0, .float 100), (1, .ref 0), (2, .ref 55), (3, .int x3)] [.int v, .int v] X2 (u.1 + 0, u.2 + 0) Q
  exact ev_icmp_eq (pc := 1235) (tgt := 1771) d_lw_law_1235 (by decide) (fun _ => kk N2 S1 X2 h2) (fun c => absurd rfl c)
def PR_later (E : gp_E) : Prop := ∀ {N : Nat → Nat} {S : gp_S} {X : gp_H}, Inv N S X → ∀ x1 x2 : Int32, Ev E m_ga_later 0 [(0, .ref 0), (1, .int x1), (2, .int x2)] [] X (0, 0) (gp_two E m_mo_later [(0, .ref 55), (1, .int x1), (2, .int x2)])
theorem lc_later {E : gp_E} {N : Nat → Nat} {S : gp_S} {X : gp_H} {u : Nat × Nat} {Q : Option Value → gp_H → Prop} {i : Nat} {x3 : Int32} (hp : PR_later E) (h : Inv N S X) (hx : x3 = nI i) (hi : i + 6 ≤ E.2.1) (hL : E.2.1 ≤ 3072) (hu : u.1 + 0 ≤ 600000 ∧ u.2 + 0 ≤ 7302250) (kk : ∀ N2 S2 X2, Inv N2 S2 X2 → Ev E m_lw_law 1771 [(0, .float 100), (1, .ref 0), (2, .ref 55), (3, .int x3)] [] X2 (u.1 + 0, u.2 + 0) Q) : Ev E m_lw_law 1240 [(0, .float 100), (1, .ref 0), (2, .ref 55), (3, .int x3)] [] X u Q := by
  refine ev_aload_n (x := 0) (pc := 1240) d_lw_law_1240 rfl ?_
  refine ev_aload_nS (x := 100) (pc := 1241) d_lw_law_1241 rfl ?_
  refine ev_iload_n (x := x3) (pc := 1242) d_lw_law_1242 rfl ?_
  refine ev_iconst (v := 1) (pc := 1243) d_lw_law_1243 kc_i_1 ?_
  refine ev_iadd (pc := 1244) d_lw_law_1244 ?_
  refine ev_scld (pc := 1245) d_lw_law_1245 (sc_in (j := 1) hx rfl (by decide) hi hL) ?_
  refine ev_aload_nS (x := 100) (pc := 1246) d_lw_law_1246 rfl ?_
  refine ev_iload_n (x := x3) (pc := 1247) d_lw_law_1247 rfl ?_
  refine ev_iconst (v := 2) (pc := 1248) d_lw_law_1248 kc_i_2 ?_
  refine ev_iadd (pc := 1249) d_lw_law_1249 ?_
  refine ev_scld (pc := 1250) d_lw_law_1250 (sc_in (j := 2) hx rfl (by decide) hi hL) ?_
  refine ev_callV (z := m_ga_later) (as := [.int (E.2.2 (Int32.toNatClampNeg (x3 + 1))), .int (E.2.2 (Int32.toNatClampNeg (x3 + 2)))]) (rest := []) (pc := 1251) d_lw_law_1251 (ly_at h.lay 0 rfl) lt13_11 rfl l_lw_147 i_ga_later v_ga_later o_ga_later rfl rfl (Nat.le_of_ble_eq_true rfl) rfl (Nat.le_of_ble_eq_true rfl) hu (hp h (E.2.2 (Int32.toNatClampNeg (x3 + 1))) (E.2.2 (Int32.toNatClampNeg (x3 + 2)))) (fun r X1 hq => ?_)
  obtain ⟨v, S1, rfl, hL1, hev⟩ := hq
  show Ev E m_lw_law 1254 [(0, .float 100), (1, .ref 0), (2, .ref 55), (3, .int x3)] [.int v] X1 (u.1 + 0, u.2 + 0) Q
  refine ev_aload_n (x := 55) (pc := 1254) d_lw_law_1254 rfl ?_
  refine ev_aload_nS (x := 100) (pc := 1255) d_lw_law_1255 rfl ?_
  refine ev_iload_n (x := x3) (pc := 1256) d_lw_law_1256 rfl ?_
  refine ev_iconst (v := 1) (pc := 1257) d_lw_law_1257 kc_i_1 ?_
  refine ev_iadd (pc := 1258) d_lw_law_1258 ?_
  refine ev_scld (pc := 1259) d_lw_law_1259 (sc_in (j := 1) hx rfl (by decide) hi hL) ?_
  refine ev_aload_nS (x := 100) (pc := 1260) d_lw_law_1260 rfl ?_
  refine ev_iload_n (x := x3) (pc := 1261) d_lw_law_1261 rfl ?_
  refine ev_iconst (v := 2) (pc := 1262) d_lw_law_1262 kc_i_2 ?_
  refine ev_iadd (pc := 1263) d_lw_law_1263 ?_
  refine ev_scld (pc := 1264) d_lw_law_1264 (sc_in (j := 2) hx rfl (by decide) hi hL) ?_
  refine ev_callV (z := m_mo_later) (as := [.int (E.2.2 (Int32.toNatClampNeg (x3 + 1))), .int (E.2.2 (Int32.toNatClampNeg (x3 + 2)))]) (rest := [.int v]) (pc := 1265) d_lw_law_1265 (ly_at hL1 55 rfl) lt13_12 rfl l_lw_150 i_mo_later v_mo_later o_mo_later rfl rfl (Nat.le_of_ble_eq_true rfl) rfl (Nat.le_of_ble_eq_true rfl) hu hev (fun r X2 hq => ?_)
  obtain ⟨rfl, N2, h2⟩ := hq
  show Ev E m_lw_law 1268 [(0, .float 100), (1, .ref 0), (2, .ref 55), (3, .int x3)] [.int v, .int v] X2 (u.1 + 0, u.2 + 0) Q
  exact ev_icmp_eq (pc := 1268) (tgt := 1771) d_lw_law_1268 (by decide) (fun _ => kk N2 S1 X2 h2) (fun c => absurd rfl c)
def PR_danger (E : gp_E) : Prop := ∀ {N : Nat → Nat} {S : gp_S} {X : gp_H}, Inv N S X → Ev E m_ga_danger 0 [(0, .ref 0)] [] X (0, 0) (gp_two E m_mo_danger [(0, .ref 55)])
theorem lc_danger {E : gp_E} {N : Nat → Nat} {S : gp_S} {X : gp_H} {u : Nat × Nat} {Q : Option Value → gp_H → Prop} {i : Nat} {x3 : Int32} (hp : PR_danger E) (h : Inv N S X) (hx : x3 = nI i) (hi : i + 6 ≤ E.2.1) (hL : E.2.1 ≤ 3072) (hu : u.1 + 0 ≤ 600000 ∧ u.2 + 0 ≤ 7302250) (kk : ∀ N2 S2 X2, Inv N2 S2 X2 → Ev E m_lw_law 1771 [(0, .float 100), (1, .ref 0), (2, .ref 55), (3, .int x3)] [] X2 (u.1 + 0, u.2 + 0) Q) : Ev E m_lw_law 1273 [(0, .float 100), (1, .ref 0), (2, .ref 55), (3, .int x3)] [] X u Q := by
  refine ev_aload_n (x := 0) (pc := 1273) d_lw_law_1273 rfl ?_
  refine ev_callV (z := m_ga_danger) (as := []) (rest := []) (pc := 1274) d_lw_law_1274 (ly_at h.lay 0 rfl) lt13_11 rfl l_lw_151 i_ga_danger v_ga_danger o_ga_danger rfl rfl (Nat.le_of_ble_eq_true rfl) rfl (Nat.le_of_ble_eq_true rfl) hu (hp h) (fun r X1 hq => ?_)
  obtain ⟨v, S1, rfl, hL1, hev⟩ := hq
  show Ev E m_lw_law 1277 [(0, .float 100), (1, .ref 0), (2, .ref 55), (3, .int x3)] [.int v] X1 (u.1 + 0, u.2 + 0) Q
  refine ev_aload_n (x := 55) (pc := 1277) d_lw_law_1277 rfl ?_
  refine ev_callV (z := m_mo_danger) (as := []) (rest := [.int v]) (pc := 1278) d_lw_law_1278 (ly_at hL1 55 rfl) lt13_12 rfl l_lw_154 i_mo_danger v_mo_danger o_mo_danger rfl rfl (Nat.le_of_ble_eq_true rfl) rfl (Nat.le_of_ble_eq_true rfl) hu hev (fun r X2 hq => ?_)
  obtain ⟨rfl, N2, h2⟩ := hq
  show Ev E m_lw_law 1281 [(0, .float 100), (1, .ref 0), (2, .ref 55), (3, .int x3)] [.int v, .int v] X2 (u.1 + 0, u.2 + 0) Q
  exact ev_icmp_eq (pc := 1281) (tgt := 1771) d_lw_law_1281 (by decide) (fun _ => kk N2 S1 X2 h2) (fun c => absurd rfl c)
def PR_smell (E : gp_E) : Prop := ∀ {N : Nat → Nat} {S : gp_S} {X : gp_H}, Inv N S X → ∀ x1 x2 : Int32, Ev E m_ga_smell 0 [(0, .ref 0), (1, .int x1), (2, .int x2)] [] X (0, 0) (gp_two E m_mo_smell [(0, .ref 55), (1, .int x1), (2, .int x2)])
theorem lc_smell {E : gp_E} {N : Nat → Nat} {S : gp_S} {X : gp_H} {u : Nat × Nat} {Q : Option Value → gp_H → Prop} {i : Nat} {x3 : Int32} (hp : PR_smell E) (h : Inv N S X) (hx : x3 = nI i) (hi : i + 6 ≤ E.2.1) (hL : E.2.1 ≤ 3072) (hu : u.1 + 0 ≤ 600000 ∧ u.2 + 0 ≤ 7302250) (kk : ∀ N2 S2 X2, Inv N2 S2 X2 → Ev E m_lw_law 1771 [(0, .float 100), (1, .ref 0), (2, .ref 55), (3, .int x3)] [] X2 (u.1 + 0, u.2 + 0) Q) : Ev E m_lw_law 1286 [(0, .float 100), (1, .ref 0), (2, .ref 55), (3, .int x3)] [] X u Q := by
  refine ev_aload_n (x := 0) (pc := 1286) d_lw_law_1286 rfl ?_
  refine ev_aload_nS (x := 100) (pc := 1287) d_lw_law_1287 rfl ?_
  refine ev_iload_n (x := x3) (pc := 1288) d_lw_law_1288 rfl ?_
  refine ev_iconst (v := 1) (pc := 1289) d_lw_law_1289 kc_i_1 ?_
  refine ev_iadd (pc := 1290) d_lw_law_1290 ?_
  refine ev_scld (pc := 1291) d_lw_law_1291 (sc_in (j := 1) hx rfl (by decide) hi hL) ?_
  refine ev_aload_nS (x := 100) (pc := 1292) d_lw_law_1292 rfl ?_
  refine ev_iload_n (x := x3) (pc := 1293) d_lw_law_1293 rfl ?_
  refine ev_iconst (v := 2) (pc := 1294) d_lw_law_1294 kc_i_2 ?_
  refine ev_iadd (pc := 1295) d_lw_law_1295 ?_
  refine ev_scld (pc := 1296) d_lw_law_1296 (sc_in (j := 2) hx rfl (by decide) hi hL) ?_
  refine ev_callV (z := m_ga_smell) (as := [.int (E.2.2 (Int32.toNatClampNeg (x3 + 1))), .int (E.2.2 (Int32.toNatClampNeg (x3 + 2)))]) (rest := []) (pc := 1297) d_lw_law_1297 (ly_at h.lay 0 rfl) lt13_11 rfl l_lw_155 i_ga_smell v_ga_smell o_ga_smell rfl rfl (Nat.le_of_ble_eq_true rfl) rfl (Nat.le_of_ble_eq_true rfl) hu (hp h (E.2.2 (Int32.toNatClampNeg (x3 + 1))) (E.2.2 (Int32.toNatClampNeg (x3 + 2)))) (fun r X1 hq => ?_)
  obtain ⟨v, S1, rfl, hL1, hev⟩ := hq
  show Ev E m_lw_law 1300 [(0, .float 100), (1, .ref 0), (2, .ref 55), (3, .int x3)] [.int v] X1 (u.1 + 0, u.2 + 0) Q
  refine ev_aload_n (x := 55) (pc := 1300) d_lw_law_1300 rfl ?_
  refine ev_aload_nS (x := 100) (pc := 1301) d_lw_law_1301 rfl ?_
  refine ev_iload_n (x := x3) (pc := 1302) d_lw_law_1302 rfl ?_
  refine ev_iconst (v := 1) (pc := 1303) d_lw_law_1303 kc_i_1 ?_
  refine ev_iadd (pc := 1304) d_lw_law_1304 ?_
  refine ev_scld (pc := 1305) d_lw_law_1305 (sc_in (j := 1) hx rfl (by decide) hi hL) ?_
  refine ev_aload_nS (x := 100) (pc := 1306) d_lw_law_1306 rfl ?_
  refine ev_iload_n (x := x3) (pc := 1307) d_lw_law_1307 rfl ?_
  refine ev_iconst (v := 2) (pc := 1308) d_lw_law_1308 kc_i_2 ?_
  refine ev_iadd (pc := 1309) d_lw_law_1309 ?_
  refine ev_scld (pc := 1310) d_lw_law_1310 (sc_in (j := 2) hx rfl (by decide) hi hL) ?_
  refine ev_callV (z := m_mo_smell) (as := [.int (E.2.2 (Int32.toNatClampNeg (x3 + 1))), .int (E.2.2 (Int32.toNatClampNeg (x3 + 2)))]) (rest := [.int v]) (pc := 1311) d_lw_law_1311 (ly_at hL1 55 rfl) lt13_12 rfl l_lw_158 i_mo_smell v_mo_smell o_mo_smell rfl rfl (Nat.le_of_ble_eq_true rfl) rfl (Nat.le_of_ble_eq_true rfl) hu hev (fun r X2 hq => ?_)
  obtain ⟨rfl, N2, h2⟩ := hq
  show Ev E m_lw_law 1314 [(0, .float 100), (1, .ref 0), (2, .ref 55), (3, .int x3)] [.int v, .int v] X2 (u.1 + 0, u.2 + 0) Q
  exact ev_icmp_eq (pc := 1314) (tgt := 1771) d_lw_law_1314 (by decide) (fun _ => kk N2 S1 X2 h2) (fun c => absurd rfl c)
def PR_smellOf (E : gp_E) : Prop := ∀ {N : Nat → Nat} {S : gp_S} {X : gp_H}, Inv N S X → ∀ x1 x2 : Int32, Ev E m_ga_smellOf 0 [(0, .ref 0), (1, .int x1), (2, .int x2)] [] X (0, 0) (gp_two E m_mo_smellOf [(0, .ref 55), (1, .int x1), (2, .int x2)])
theorem lc_smellOf {E : gp_E} {N : Nat → Nat} {S : gp_S} {X : gp_H} {u : Nat × Nat} {Q : Option Value → gp_H → Prop} {i : Nat} {x3 : Int32} (hp : PR_smellOf E) (h : Inv N S X) (hx : x3 = nI i) (hi : i + 6 ≤ E.2.1) (hL : E.2.1 ≤ 3072) (hu : u.1 + 0 ≤ 600000 ∧ u.2 + 0 ≤ 7302250) (kk : ∀ N2 S2 X2, Inv N2 S2 X2 → Ev E m_lw_law 1771 [(0, .float 100), (1, .ref 0), (2, .ref 55), (3, .int x3)] [] X2 (u.1 + 0, u.2 + 0) Q) : Ev E m_lw_law 1319 [(0, .float 100), (1, .ref 0), (2, .ref 55), (3, .int x3)] [] X u Q := by
  refine ev_aload_n (x := 0) (pc := 1319) d_lw_law_1319 rfl ?_
  refine ev_aload_nS (x := 100) (pc := 1320) d_lw_law_1320 rfl ?_
  refine ev_iload_n (x := x3) (pc := 1321) d_lw_law_1321 rfl ?_
  refine ev_iconst (v := 1) (pc := 1322) d_lw_law_1322 kc_i_1 ?_
  refine ev_iadd (pc := 1323) d_lw_law_1323 ?_
  refine ev_scld (pc := 1324) d_lw_law_1324 (sc_in (j := 1) hx rfl (by decide) hi hL) ?_
  refine ev_aload_nS (x := 100) (pc := 1325) d_lw_law_1325 rfl ?_
  refine ev_iload_n (x := x3) (pc := 1326) d_lw_law_1326 rfl ?_
  refine ev_iconst (v := 2) (pc := 1327) d_lw_law_1327 kc_i_2 ?_
  refine ev_iadd (pc := 1328) d_lw_law_1328 ?_
  refine ev_scld (pc := 1329) d_lw_law_1329 (sc_in (j := 2) hx rfl (by decide) hi hL) ?_
  refine ev_callV (z := m_ga_smellOf) (as := [.int (E.2.2 (Int32.toNatClampNeg (x3 + 1))), .int (E.2.2 (Int32.toNatClampNeg (x3 + 2)))]) (rest := []) (pc := 1330) d_lw_law_1330 (ly_at h.lay 0 rfl) lt13_11 rfl l_lw_159 i_ga_smellOf v_ga_smellOf o_ga_smellOf rfl rfl (Nat.le_of_ble_eq_true rfl) rfl (Nat.le_of_ble_eq_true rfl) hu (hp h (E.2.2 (Int32.toNatClampNeg (x3 + 1))) (E.2.2 (Int32.toNatClampNeg (x3 + 2)))) (fun r X1 hq => ?_)
  obtain ⟨v, S1, rfl, hL1, hev⟩ := hq
  show Ev E m_lw_law 1333 [(0, .float 100), (1, .ref 0), (2, .ref 55), (3, .int x3)] [.int v] X1 (u.1 + 0, u.2 + 0) Q
  refine ev_aload_n (x := 55) (pc := 1333) d_lw_law_1333 rfl ?_
  refine ev_aload_nS (x := 100) (pc := 1334) d_lw_law_1334 rfl ?_
  refine ev_iload_n (x := x3) (pc := 1335) d_lw_law_1335 rfl ?_
  refine ev_iconst (v := 1) (pc := 1336) d_lw_law_1336 kc_i_1 ?_
  refine ev_iadd (pc := 1337) d_lw_law_1337 ?_
  refine ev_scld (pc := 1338) d_lw_law_1338 (sc_in (j := 1) hx rfl (by decide) hi hL) ?_
  refine ev_aload_nS (x := 100) (pc := 1339) d_lw_law_1339 rfl ?_
  refine ev_iload_n (x := x3) (pc := 1340) d_lw_law_1340 rfl ?_
  refine ev_iconst (v := 2) (pc := 1341) d_lw_law_1341 kc_i_2 ?_
  refine ev_iadd (pc := 1342) d_lw_law_1342 ?_
  refine ev_scld (pc := 1343) d_lw_law_1343 (sc_in (j := 2) hx rfl (by decide) hi hL) ?_
  refine ev_callV (z := m_mo_smellOf) (as := [.int (E.2.2 (Int32.toNatClampNeg (x3 + 1))), .int (E.2.2 (Int32.toNatClampNeg (x3 + 2)))]) (rest := [.int v]) (pc := 1344) d_lw_law_1344 (ly_at hL1 55 rfl) lt13_12 rfl l_lw_162 i_mo_smellOf v_mo_smellOf o_mo_smellOf rfl rfl (Nat.le_of_ble_eq_true rfl) rfl (Nat.le_of_ble_eq_true rfl) hu hev (fun r X2 hq => ?_)
  obtain ⟨rfl, N2, h2⟩ := hq
  show Ev E m_lw_law 1347 [(0, .float 100), (1, .ref 0), (2, .ref 55), (3, .int x3)] [.int v, .int v] X2 (u.1 + 0, u.2 + 0) Q
  exact ev_icmp_eq (pc := 1347) (tgt := 1771) d_lw_law_1347 (by decide) (fun _ => kk N2 S1 X2 h2) (fun c => absurd rfl c)
def PR_limit (E : gp_E) : Prop := ∀ {N : Nat → Nat} {S : gp_S} {X : gp_H}, Inv N S X → ∀ x1 : Int32, Ev E m_ga_limit 0 [(0, .ref 0), (1, .int x1)] [] X (0, 0) (gp_two E m_mo_limit [(0, .ref 55), (1, .int x1)])
theorem lc_limit {E : gp_E} {N : Nat → Nat} {S : gp_S} {X : gp_H} {u : Nat × Nat} {Q : Option Value → gp_H → Prop} {i : Nat} {x3 : Int32} (hp : PR_limit E) (h : Inv N S X) (hx : x3 = nI i) (hi : i + 6 ≤ E.2.1) (hL : E.2.1 ≤ 3072) (hu : u.1 + 0 ≤ 600000 ∧ u.2 + 0 ≤ 7302250) (kk : ∀ N2 S2 X2, Inv N2 S2 X2 → Ev E m_lw_law 1771 [(0, .float 100), (1, .ref 0), (2, .ref 55), (3, .int x3)] [] X2 (u.1 + 0, u.2 + 0) Q) : Ev E m_lw_law 1352 [(0, .float 100), (1, .ref 0), (2, .ref 55), (3, .int x3)] [] X u Q := by
  refine ev_aload_n (x := 0) (pc := 1352) d_lw_law_1352 rfl ?_
  refine ev_aload_nS (x := 100) (pc := 1353) d_lw_law_1353 rfl ?_
  refine ev_iload_n (x := x3) (pc := 1354) d_lw_law_1354 rfl ?_
  refine ev_iconst (v := 1) (pc := 1355) d_lw_law_1355 kc_i_1 ?_
  refine ev_iadd (pc := 1356) d_lw_law_1356 ?_
  refine ev_scld (pc := 1357) d_lw_law_1357 (sc_in (j := 1) hx rfl (by decide) hi hL) ?_
  refine ev_callV (z := m_ga_limit) (as := [.int (E.2.2 (Int32.toNatClampNeg (x3 + 1)))]) (rest := []) (pc := 1358) d_lw_law_1358 (ly_at h.lay 0 rfl) lt13_11 rfl l_lw_163 i_ga_limit v_ga_limit o_ga_limit rfl rfl (Nat.le_of_ble_eq_true rfl) rfl (Nat.le_of_ble_eq_true rfl) hu (hp h (E.2.2 (Int32.toNatClampNeg (x3 + 1)))) (fun r X1 hq => ?_)
  obtain ⟨v, S1, rfl, hL1, hev⟩ := hq
  show Ev E m_lw_law 1361 [(0, .float 100), (1, .ref 0), (2, .ref 55), (3, .int x3)] [.int v] X1 (u.1 + 0, u.2 + 0) Q
  refine ev_aload_n (x := 55) (pc := 1361) d_lw_law_1361 rfl ?_
  refine ev_aload_nS (x := 100) (pc := 1362) d_lw_law_1362 rfl ?_
  refine ev_iload_n (x := x3) (pc := 1363) d_lw_law_1363 rfl ?_
  refine ev_iconst (v := 1) (pc := 1364) d_lw_law_1364 kc_i_1 ?_
  refine ev_iadd (pc := 1365) d_lw_law_1365 ?_
  refine ev_scld (pc := 1366) d_lw_law_1366 (sc_in (j := 1) hx rfl (by decide) hi hL) ?_
  refine ev_callV (z := m_mo_limit) (as := [.int (E.2.2 (Int32.toNatClampNeg (x3 + 1)))]) (rest := [.int v]) (pc := 1367) d_lw_law_1367 (ly_at hL1 55 rfl) lt13_12 rfl l_lw_166 i_mo_limit v_mo_limit o_mo_limit rfl rfl (Nat.le_of_ble_eq_true rfl) rfl (Nat.le_of_ble_eq_true rfl) hu hev (fun r X2 hq => ?_)
  obtain ⟨rfl, N2, h2⟩ := hq
  show Ev E m_lw_law 1370 [(0, .float 100), (1, .ref 0), (2, .ref 55), (3, .int x3)] [.int v, .int v] X2 (u.1 + 0, u.2 + 0) Q
  exact ev_icmp_eq (pc := 1370) (tgt := 1771) d_lw_law_1370 (by decide) (fun _ => kk N2 S1 X2 h2) (fun c => absurd rfl c)
def PR_fault (E : gp_E) : Prop := ∀ {N : Nat → Nat} {S : gp_S} {X : gp_H}, Inv N S X → ∀ x1 : Int32, Ev E m_ga_fault 0 [(0, .ref 0), (1, .int x1)] [] X (0, 0) (gp_two E m_mo_fault [(0, .ref 55), (1, .int x1)])
theorem lc_fault {E : gp_E} {N : Nat → Nat} {S : gp_S} {X : gp_H} {u : Nat × Nat} {Q : Option Value → gp_H → Prop} {i : Nat} {x3 : Int32} (hp : PR_fault E) (h : Inv N S X) (hx : x3 = nI i) (hi : i + 6 ≤ E.2.1) (hL : E.2.1 ≤ 3072) (hu : u.1 + 0 ≤ 600000 ∧ u.2 + 0 ≤ 7302250) (kk : ∀ N2 S2 X2, Inv N2 S2 X2 → Ev E m_lw_law 1771 [(0, .float 100), (1, .ref 0), (2, .ref 55), (3, .int x3)] [] X2 (u.1 + 0, u.2 + 0) Q) : Ev E m_lw_law 1375 [(0, .float 100), (1, .ref 0), (2, .ref 55), (3, .int x3)] [] X u Q := by
  refine ev_aload_n (x := 0) (pc := 1375) d_lw_law_1375 rfl ?_
  refine ev_aload_nS (x := 100) (pc := 1376) d_lw_law_1376 rfl ?_
  refine ev_iload_n (x := x3) (pc := 1377) d_lw_law_1377 rfl ?_
  refine ev_iconst (v := 1) (pc := 1378) d_lw_law_1378 kc_i_1 ?_
  refine ev_iadd (pc := 1379) d_lw_law_1379 ?_
  refine ev_scld (pc := 1380) d_lw_law_1380 (sc_in (j := 1) hx rfl (by decide) hi hL) ?_
  refine ev_callV (z := m_ga_fault) (as := [.int (E.2.2 (Int32.toNatClampNeg (x3 + 1)))]) (rest := []) (pc := 1381) d_lw_law_1381 (ly_at h.lay 0 rfl) lt13_11 rfl l_lw_167 i_ga_fault v_ga_fault o_ga_fault rfl rfl (Nat.le_of_ble_eq_true rfl) rfl (Nat.le_of_ble_eq_true rfl) hu (hp h (E.2.2 (Int32.toNatClampNeg (x3 + 1)))) (fun r X1 hq => ?_)
  obtain ⟨v, S1, rfl, hL1, hev⟩ := hq
  show Ev E m_lw_law 1384 [(0, .float 100), (1, .ref 0), (2, .ref 55), (3, .int x3)] [.int v] X1 (u.1 + 0, u.2 + 0) Q
  refine ev_aload_n (x := 55) (pc := 1384) d_lw_law_1384 rfl ?_
  refine ev_aload_nS (x := 100) (pc := 1385) d_lw_law_1385 rfl ?_
  refine ev_iload_n (x := x3) (pc := 1386) d_lw_law_1386 rfl ?_
  refine ev_iconst (v := 1) (pc := 1387) d_lw_law_1387 kc_i_1 ?_
  refine ev_iadd (pc := 1388) d_lw_law_1388 ?_
  refine ev_scld (pc := 1389) d_lw_law_1389 (sc_in (j := 1) hx rfl (by decide) hi hL) ?_
  refine ev_callV (z := m_mo_fault) (as := [.int (E.2.2 (Int32.toNatClampNeg (x3 + 1)))]) (rest := [.int v]) (pc := 1390) d_lw_law_1390 (ly_at hL1 55 rfl) lt13_12 rfl l_lw_170 i_mo_fault v_mo_fault o_mo_fault rfl rfl (Nat.le_of_ble_eq_true rfl) rfl (Nat.le_of_ble_eq_true rfl) hu hev (fun r X2 hq => ?_)
  obtain ⟨rfl, N2, h2⟩ := hq
  show Ev E m_lw_law 1393 [(0, .float 100), (1, .ref 0), (2, .ref 55), (3, .int x3)] [.int v, .int v] X2 (u.1 + 0, u.2 + 0) Q
  exact ev_icmp_eq (pc := 1393) (tgt := 1771) d_lw_law_1393 (by decide) (fun _ => kk N2 S1 X2 h2) (fun c => absurd rfl c)
def PR_beyond (E : gp_E) : Prop := ∀ {N : Nat → Nat} {S : gp_S} {X : gp_H}, Inv N S X → ∀ x1 x2 : Int32, Ev E m_ga_beyond 0 [(0, .ref 0), (1, .int x1), (2, .int x2)] [] X (0, 0) (gp_two E m_mo_beyond [(0, .ref 55), (1, .int x1), (2, .int x2)])
theorem lc_beyond {E : gp_E} {N : Nat → Nat} {S : gp_S} {X : gp_H} {u : Nat × Nat} {Q : Option Value → gp_H → Prop} {i : Nat} {x3 : Int32} (hp : PR_beyond E) (h : Inv N S X) (hx : x3 = nI i) (hi : i + 6 ≤ E.2.1) (hL : E.2.1 ≤ 3072) (hu : u.1 + 0 ≤ 600000 ∧ u.2 + 0 ≤ 7302250) (kk : ∀ N2 S2 X2, Inv N2 S2 X2 → Ev E m_lw_law 1771 [(0, .float 100), (1, .ref 0), (2, .ref 55), (3, .int x3)] [] X2 (u.1 + 0, u.2 + 0) Q) : Ev E m_lw_law 1398 [(0, .float 100), (1, .ref 0), (2, .ref 55), (3, .int x3)] [] X u Q := by
  refine ev_aload_n (x := 0) (pc := 1398) d_lw_law_1398 rfl ?_
  refine ev_aload_nS (x := 100) (pc := 1399) d_lw_law_1399 rfl ?_
  refine ev_iload_n (x := x3) (pc := 1400) d_lw_law_1400 rfl ?_
  refine ev_iconst (v := 1) (pc := 1401) d_lw_law_1401 kc_i_1 ?_
  refine ev_iadd (pc := 1402) d_lw_law_1402 ?_
  refine ev_scld (pc := 1403) d_lw_law_1403 (sc_in (j := 1) hx rfl (by decide) hi hL) ?_
  refine ev_aload_nS (x := 100) (pc := 1404) d_lw_law_1404 rfl ?_
  refine ev_iload_n (x := x3) (pc := 1405) d_lw_law_1405 rfl ?_
  refine ev_iconst (v := 2) (pc := 1406) d_lw_law_1406 kc_i_2 ?_
  refine ev_iadd (pc := 1407) d_lw_law_1407 ?_
  refine ev_scld (pc := 1408) d_lw_law_1408 (sc_in (j := 2) hx rfl (by decide) hi hL) ?_
  refine ev_callV (z := m_ga_beyond) (as := [.int (E.2.2 (Int32.toNatClampNeg (x3 + 1))), .int (E.2.2 (Int32.toNatClampNeg (x3 + 2)))]) (rest := []) (pc := 1409) d_lw_law_1409 (ly_at h.lay 0 rfl) lt13_11 rfl l_lw_171 i_ga_beyond v_ga_beyond o_ga_beyond rfl rfl (Nat.le_of_ble_eq_true rfl) rfl (Nat.le_of_ble_eq_true rfl) hu (hp h (E.2.2 (Int32.toNatClampNeg (x3 + 1))) (E.2.2 (Int32.toNatClampNeg (x3 + 2)))) (fun r X1 hq => ?_)
  obtain ⟨v, S1, rfl, hL1, hev⟩ := hq
  show Ev E m_lw_law 1412 [(0, .float 100), (1, .ref 0), (2, .ref 55), (3, .int x3)] [.int v] X1 (u.1 + 0, u.2 + 0) Q
  refine ev_aload_n (x := 55) (pc := 1412) d_lw_law_1412 rfl ?_
  refine ev_aload_nS (x := 100) (pc := 1413) d_lw_law_1413 rfl ?_
  refine ev_iload_n (x := x3) (pc := 1414) d_lw_law_1414 rfl ?_
  refine ev_iconst (v := 1) (pc := 1415) d_lw_law_1415 kc_i_1 ?_
  refine ev_iadd (pc := 1416) d_lw_law_1416 ?_
  refine ev_scld (pc := 1417) d_lw_law_1417 (sc_in (j := 1) hx rfl (by decide) hi hL) ?_
  refine ev_aload_nS (x := 100) (pc := 1418) d_lw_law_1418 rfl ?_
  refine ev_iload_n (x := x3) (pc := 1419) d_lw_law_1419 rfl ?_
  refine ev_iconst (v := 2) (pc := 1420) d_lw_law_1420 kc_i_2 ?_
  refine ev_iadd (pc := 1421) d_lw_law_1421 ?_
  refine ev_scld (pc := 1422) d_lw_law_1422 (sc_in (j := 2) hx rfl (by decide) hi hL) ?_
  refine ev_callV (z := m_mo_beyond) (as := [.int (E.2.2 (Int32.toNatClampNeg (x3 + 1))), .int (E.2.2 (Int32.toNatClampNeg (x3 + 2)))]) (rest := [.int v]) (pc := 1423) d_lw_law_1423 (ly_at hL1 55 rfl) lt13_12 rfl l_lw_174 i_mo_beyond v_mo_beyond o_mo_beyond rfl rfl (Nat.le_of_ble_eq_true rfl) rfl (Nat.le_of_ble_eq_true rfl) hu hev (fun r X2 hq => ?_)
  obtain ⟨rfl, N2, h2⟩ := hq
  show Ev E m_lw_law 1426 [(0, .float 100), (1, .ref 0), (2, .ref 55), (3, .int x3)] [.int v, .int v] X2 (u.1 + 0, u.2 + 0) Q
  exact ev_icmp_eq (pc := 1426) (tgt := 1771) d_lw_law_1426 (by decide) (fun _ => kk N2 S1 X2 h2) (fun c => absurd rfl c)
def PR_feed (E : gp_E) : Prop := ∀ {N : Nat → Nat} {S : gp_S} {X : gp_H}, Inv N S X → ∀ x1 x2 : Int32, Ev E m_ga_feed 0 [(0, .ref 0), (1, .int x1), (2, .int x2)] [] X (0, 0) (gp_two E m_mo_feed [(0, .ref 55), (1, .int x1), (2, .int x2)])
theorem lc_feed {E : gp_E} {N : Nat → Nat} {S : gp_S} {X : gp_H} {u : Nat × Nat} {Q : Option Value → gp_H → Prop} {i : Nat} {x3 : Int32} (hp : PR_feed E) (h : Inv N S X) (hx : x3 = nI i) (hi : i + 6 ≤ E.2.1) (hL : E.2.1 ≤ 3072) (hu : u.1 + 0 ≤ 600000 ∧ u.2 + 0 ≤ 7302250) (kk : ∀ N2 S2 X2, Inv N2 S2 X2 → Ev E m_lw_law 1771 [(0, .float 100), (1, .ref 0), (2, .ref 55), (3, .int x3)] [] X2 (u.1 + 0, u.2 + 0) Q) : Ev E m_lw_law 1431 [(0, .float 100), (1, .ref 0), (2, .ref 55), (3, .int x3)] [] X u Q := by
  refine ev_aload_n (x := 0) (pc := 1431) d_lw_law_1431 rfl ?_
  refine ev_aload_nS (x := 100) (pc := 1432) d_lw_law_1432 rfl ?_
  refine ev_iload_n (x := x3) (pc := 1433) d_lw_law_1433 rfl ?_
  refine ev_iconst (v := 1) (pc := 1434) d_lw_law_1434 kc_i_1 ?_
  refine ev_iadd (pc := 1435) d_lw_law_1435 ?_
  refine ev_scld (pc := 1436) d_lw_law_1436 (sc_in (j := 1) hx rfl (by decide) hi hL) ?_
  refine ev_aload_nS (x := 100) (pc := 1437) d_lw_law_1437 rfl ?_
  refine ev_iload_n (x := x3) (pc := 1438) d_lw_law_1438 rfl ?_
  refine ev_iconst (v := 2) (pc := 1439) d_lw_law_1439 kc_i_2 ?_
  refine ev_iadd (pc := 1440) d_lw_law_1440 ?_
  refine ev_scld (pc := 1441) d_lw_law_1441 (sc_in (j := 2) hx rfl (by decide) hi hL) ?_
  refine ev_callV (z := m_ga_feed) (as := [.int (E.2.2 (Int32.toNatClampNeg (x3 + 1))), .int (E.2.2 (Int32.toNatClampNeg (x3 + 2)))]) (rest := []) (pc := 1442) d_lw_law_1442 (ly_at h.lay 0 rfl) lt13_11 rfl l_lw_175 i_ga_feed v_ga_feed o_ga_feed rfl rfl (Nat.le_of_ble_eq_true rfl) rfl (Nat.le_of_ble_eq_true rfl) hu (hp h (E.2.2 (Int32.toNatClampNeg (x3 + 1))) (E.2.2 (Int32.toNatClampNeg (x3 + 2)))) (fun r X1 hq => ?_)
  obtain ⟨v, S1, rfl, hL1, hev⟩ := hq
  show Ev E m_lw_law 1445 [(0, .float 100), (1, .ref 0), (2, .ref 55), (3, .int x3)] [.int v] X1 (u.1 + 0, u.2 + 0) Q
  refine ev_aload_n (x := 55) (pc := 1445) d_lw_law_1445 rfl ?_
  refine ev_aload_nS (x := 100) (pc := 1446) d_lw_law_1446 rfl ?_
  refine ev_iload_n (x := x3) (pc := 1447) d_lw_law_1447 rfl ?_
  refine ev_iconst (v := 1) (pc := 1448) d_lw_law_1448 kc_i_1 ?_
  refine ev_iadd (pc := 1449) d_lw_law_1449 ?_
  refine ev_scld (pc := 1450) d_lw_law_1450 (sc_in (j := 1) hx rfl (by decide) hi hL) ?_
  refine ev_aload_nS (x := 100) (pc := 1451) d_lw_law_1451 rfl ?_
  refine ev_iload_n (x := x3) (pc := 1452) d_lw_law_1452 rfl ?_
  refine ev_iconst (v := 2) (pc := 1453) d_lw_law_1453 kc_i_2 ?_
  refine ev_iadd (pc := 1454) d_lw_law_1454 ?_
  refine ev_scld (pc := 1455) d_lw_law_1455 (sc_in (j := 2) hx rfl (by decide) hi hL) ?_
  refine ev_callV (z := m_mo_feed) (as := [.int (E.2.2 (Int32.toNatClampNeg (x3 + 1))), .int (E.2.2 (Int32.toNatClampNeg (x3 + 2)))]) (rest := [.int v]) (pc := 1456) d_lw_law_1456 (ly_at hL1 55 rfl) lt13_12 rfl l_lw_178 i_mo_feed v_mo_feed o_mo_feed rfl rfl (Nat.le_of_ble_eq_true rfl) rfl (Nat.le_of_ble_eq_true rfl) hu hev (fun r X2 hq => ?_)
  obtain ⟨rfl, N2, h2⟩ := hq
  show Ev E m_lw_law 1459 [(0, .float 100), (1, .ref 0), (2, .ref 55), (3, .int x3)] [.int v, .int v] X2 (u.1 + 0, u.2 + 0) Q
  exact ev_icmp_eq (pc := 1459) (tgt := 1771) d_lw_law_1459 (by decide) (fun _ => kk N2 S1 X2 h2) (fun c => absurd rfl c)
def PR_law (E : gp_E) : Prop := ∀ {N : Nat → Nat} {S : gp_S} {X : gp_H}, Inv N S X → Ev E m_ga_law 0 [(0, .ref 0)] [] X (0, 0) (gp_two E m_mo_law [(0, .ref 55)])
theorem lc_law {E : gp_E} {N : Nat → Nat} {S : gp_S} {X : gp_H} {u : Nat × Nat} {Q : Option Value → gp_H → Prop} {i : Nat} {x3 : Int32} (hp : PR_law E) (h : Inv N S X) (hx : x3 = nI i) (hi : i + 6 ≤ E.2.1) (hL : E.2.1 ≤ 3072) (hu : u.1 + 0 ≤ 600000 ∧ u.2 + 0 ≤ 7302250) (kk : ∀ N2 S2 X2, Inv N2 S2 X2 → Ev E m_lw_law 1771 [(0, .float 100), (1, .ref 0), (2, .ref 55), (3, .int x3)] [] X2 (u.1 + 0, u.2 + 0) Q) : Ev E m_lw_law 1464 [(0, .float 100), (1, .ref 0), (2, .ref 55), (3, .int x3)] [] X u Q := by
  refine ev_aload_n (x := 0) (pc := 1464) d_lw_law_1464 rfl ?_
  refine ev_callV (z := m_ga_law) (as := []) (rest := []) (pc := 1465) d_lw_law_1465 (ly_at h.lay 0 rfl) lt13_11 rfl l_lw_179 i_ga_law v_ga_law o_ga_law rfl rfl (Nat.le_of_ble_eq_true rfl) rfl (Nat.le_of_ble_eq_true rfl) hu (hp h) (fun r X1 hq => ?_)
  obtain ⟨v, S1, rfl, hL1, hev⟩ := hq
  show Ev E m_lw_law 1468 [(0, .float 100), (1, .ref 0), (2, .ref 55), (3, .int x3)] [.int v] X1 (u.1 + 0, u.2 + 0) Q
  refine ev_aload_n (x := 55) (pc := 1468) d_lw_law_1468 rfl ?_
  refine ev_callV (z := m_mo_law) (as := []) (rest := [.int v]) (pc := 1469) d_lw_law_1469 (ly_at hL1 55 rfl) lt13_12 rfl l_lw_182 i_mo_law v_mo_law o_mo_law rfl rfl (Nat.le_of_ble_eq_true rfl) rfl (Nat.le_of_ble_eq_true rfl) hu hev (fun r X2 hq => ?_)
  obtain ⟨rfl, N2, h2⟩ := hq
  show Ev E m_lw_law 1472 [(0, .float 100), (1, .ref 0), (2, .ref 55), (3, .int x3)] [.int v, .int v] X2 (u.1 + 0, u.2 + 0) Q
  exact ev_icmp_eq (pc := 1472) (tgt := 1771) d_lw_law_1472 (by decide) (fun _ => kk N2 S1 X2 h2) (fun c => absurd rfl c)
def PR_bill (E : gp_E) : Prop := ∀ {N : Nat → Nat} {S : gp_S} {X : gp_H}, Inv N S X → ∀ x1 : Int32, Ev E m_ga_bill 0 [(0, .ref 0), (1, .int x1)] [] X (0, 0) (gp_two E m_mo_bill [(0, .ref 55), (1, .int x1)])
theorem lc_bill {E : gp_E} {N : Nat → Nat} {S : gp_S} {X : gp_H} {u : Nat × Nat} {Q : Option Value → gp_H → Prop} {i : Nat} {x3 : Int32} (hp : PR_bill E) (h : Inv N S X) (hx : x3 = nI i) (hi : i + 6 ≤ E.2.1) (hL : E.2.1 ≤ 3072) (hu : u.1 + 0 ≤ 600000 ∧ u.2 + 0 ≤ 7302250) (kk : ∀ N2 S2 X2, Inv N2 S2 X2 → Ev E m_lw_law 1771 [(0, .float 100), (1, .ref 0), (2, .ref 55), (3, .int x3)] [] X2 (u.1 + 0, u.2 + 0) Q) : Ev E m_lw_law 1477 [(0, .float 100), (1, .ref 0), (2, .ref 55), (3, .int x3)] [] X u Q := by
  refine ev_aload_n (x := 0) (pc := 1477) d_lw_law_1477 rfl ?_
  refine ev_aload_nS (x := 100) (pc := 1478) d_lw_law_1478 rfl ?_
  refine ev_iload_n (x := x3) (pc := 1479) d_lw_law_1479 rfl ?_
  refine ev_iconst (v := 1) (pc := 1480) d_lw_law_1480 kc_i_1 ?_
  refine ev_iadd (pc := 1481) d_lw_law_1481 ?_
  refine ev_scld (pc := 1482) d_lw_law_1482 (sc_in (j := 1) hx rfl (by decide) hi hL) ?_
  refine ev_callV (z := m_ga_bill) (as := [.int (E.2.2 (Int32.toNatClampNeg (x3 + 1)))]) (rest := []) (pc := 1483) d_lw_law_1483 (ly_at h.lay 0 rfl) lt13_11 rfl l_lw_183 i_ga_bill v_ga_bill o_ga_bill rfl rfl (Nat.le_of_ble_eq_true rfl) rfl (Nat.le_of_ble_eq_true rfl) hu (hp h (E.2.2 (Int32.toNatClampNeg (x3 + 1)))) (fun r X1 hq => ?_)
  obtain ⟨v, S1, rfl, hL1, hev⟩ := hq
  show Ev E m_lw_law 1486 [(0, .float 100), (1, .ref 0), (2, .ref 55), (3, .int x3)] [.int v] X1 (u.1 + 0, u.2 + 0) Q
  refine ev_aload_n (x := 55) (pc := 1486) d_lw_law_1486 rfl ?_
  refine ev_aload_nS (x := 100) (pc := 1487) d_lw_law_1487 rfl ?_
  refine ev_iload_n (x := x3) (pc := 1488) d_lw_law_1488 rfl ?_
  refine ev_iconst (v := 1) (pc := 1489) d_lw_law_1489 kc_i_1 ?_
  refine ev_iadd (pc := 1490) d_lw_law_1490 ?_
  refine ev_scld (pc := 1491) d_lw_law_1491 (sc_in (j := 1) hx rfl (by decide) hi hL) ?_
  refine ev_callV (z := m_mo_bill) (as := [.int (E.2.2 (Int32.toNatClampNeg (x3 + 1)))]) (rest := [.int v]) (pc := 1492) d_lw_law_1492 (ly_at hL1 55 rfl) lt13_12 rfl l_lw_186 i_mo_bill v_mo_bill o_mo_bill rfl rfl (Nat.le_of_ble_eq_true rfl) rfl (Nat.le_of_ble_eq_true rfl) hu hev (fun r X2 hq => ?_)
  obtain ⟨rfl, N2, h2⟩ := hq
  show Ev E m_lw_law 1495 [(0, .float 100), (1, .ref 0), (2, .ref 55), (3, .int x3)] [.int v, .int v] X2 (u.1 + 0, u.2 + 0) Q
  exact ev_icmp_eq (pc := 1495) (tgt := 1771) d_lw_law_1495 (by decide) (fun _ => kk N2 S1 X2 h2) (fun c => absurd rfl c)
def PR_act (E : gp_E) : Prop := ∀ {N : Nat → Nat} {S : gp_S} {X : gp_H}, Inv N S X → ∀ x1 x2 x3 : Int32, Ev E m_ga_act 0 [(0, .ref 0), (1, .int x1), (2, .int x2), (3, .int x3)] [] X (0, 0) (gp_two E m_mo_act [(0, .ref 55), (1, .int x1), (2, .int x2), (3, .int x3)])
theorem lc_act {E : gp_E} {N : Nat → Nat} {S : gp_S} {X : gp_H} {u : Nat × Nat} {Q : Option Value → gp_H → Prop} {i : Nat} {x3 : Int32} (hp : PR_act E) (h : Inv N S X) (hx : x3 = nI i) (hi : i + 6 ≤ E.2.1) (hL : E.2.1 ≤ 3072) (hu : u.1 + 0 ≤ 600000 ∧ u.2 + 0 ≤ 7302250) (kk : ∀ N2 S2 X2, Inv N2 S2 X2 → Ev E m_lw_law 1771 [(0, .float 100), (1, .ref 0), (2, .ref 55), (3, .int x3)] [] X2 (u.1 + 0, u.2 + 0) Q) : Ev E m_lw_law 1500 [(0, .float 100), (1, .ref 0), (2, .ref 55), (3, .int x3)] [] X u Q := by
  refine ev_aload_n (x := 0) (pc := 1500) d_lw_law_1500 rfl ?_
  refine ev_aload_nS (x := 100) (pc := 1501) d_lw_law_1501 rfl ?_
  refine ev_iload_n (x := x3) (pc := 1502) d_lw_law_1502 rfl ?_
  refine ev_iconst (v := 1) (pc := 1503) d_lw_law_1503 kc_i_1 ?_
  refine ev_iadd (pc := 1504) d_lw_law_1504 ?_
  refine ev_scld (pc := 1505) d_lw_law_1505 (sc_in (j := 1) hx rfl (by decide) hi hL) ?_
  refine ev_aload_nS (x := 100) (pc := 1506) d_lw_law_1506 rfl ?_
  refine ev_iload_n (x := x3) (pc := 1507) d_lw_law_1507 rfl ?_
  refine ev_iconst (v := 2) (pc := 1508) d_lw_law_1508 kc_i_2 ?_
  refine ev_iadd (pc := 1509) d_lw_law_1509 ?_
  refine ev_scld (pc := 1510) d_lw_law_1510 (sc_in (j := 2) hx rfl (by decide) hi hL) ?_
  refine ev_aload_nS (x := 100) (pc := 1511) d_lw_law_1511 rfl ?_
  refine ev_iload_n (x := x3) (pc := 1512) d_lw_law_1512 rfl ?_
  refine ev_iconst (v := 3) (pc := 1513) d_lw_law_1513 kc_i_3 ?_
  refine ev_iadd (pc := 1514) d_lw_law_1514 ?_
  refine ev_scld (pc := 1515) d_lw_law_1515 (sc_in (j := 3) hx rfl (by decide) hi hL) ?_
  refine ev_callV (z := m_ga_act) (as := [.int (E.2.2 (Int32.toNatClampNeg (x3 + 1))), .int (E.2.2 (Int32.toNatClampNeg (x3 + 2))), .int (E.2.2 (Int32.toNatClampNeg (x3 + 3)))]) (rest := []) (pc := 1516) d_lw_law_1516 (ly_at h.lay 0 rfl) lt13_11 rfl l_lw_187 i_ga_act v_ga_act o_ga_act rfl rfl (Nat.le_of_ble_eq_true rfl) rfl (Nat.le_of_ble_eq_true rfl) hu (hp h (E.2.2 (Int32.toNatClampNeg (x3 + 1))) (E.2.2 (Int32.toNatClampNeg (x3 + 2))) (E.2.2 (Int32.toNatClampNeg (x3 + 3)))) (fun r X1 hq => ?_)
  obtain ⟨v, S1, rfl, hL1, hev⟩ := hq
  show Ev E m_lw_law 1519 [(0, .float 100), (1, .ref 0), (2, .ref 55), (3, .int x3)] [.int v] X1 (u.1 + 0, u.2 + 0) Q
  refine ev_aload_n (x := 55) (pc := 1519) d_lw_law_1519 rfl ?_
  refine ev_aload_nS (x := 100) (pc := 1520) d_lw_law_1520 rfl ?_
  refine ev_iload_n (x := x3) (pc := 1521) d_lw_law_1521 rfl ?_
  refine ev_iconst (v := 1) (pc := 1522) d_lw_law_1522 kc_i_1 ?_
  refine ev_iadd (pc := 1523) d_lw_law_1523 ?_
  refine ev_scld (pc := 1524) d_lw_law_1524 (sc_in (j := 1) hx rfl (by decide) hi hL) ?_
  refine ev_aload_nS (x := 100) (pc := 1525) d_lw_law_1525 rfl ?_
  refine ev_iload_n (x := x3) (pc := 1526) d_lw_law_1526 rfl ?_
  refine ev_iconst (v := 2) (pc := 1527) d_lw_law_1527 kc_i_2 ?_
  refine ev_iadd (pc := 1528) d_lw_law_1528 ?_
  refine ev_scld (pc := 1529) d_lw_law_1529 (sc_in (j := 2) hx rfl (by decide) hi hL) ?_
  refine ev_aload_nS (x := 100) (pc := 1530) d_lw_law_1530 rfl ?_
  refine ev_iload_n (x := x3) (pc := 1531) d_lw_law_1531 rfl ?_
  refine ev_iconst (v := 3) (pc := 1532) d_lw_law_1532 kc_i_3 ?_
  refine ev_iadd (pc := 1533) d_lw_law_1533 ?_
  refine ev_scld (pc := 1534) d_lw_law_1534 (sc_in (j := 3) hx rfl (by decide) hi hL) ?_
  refine ev_callV (z := m_mo_act) (as := [.int (E.2.2 (Int32.toNatClampNeg (x3 + 1))), .int (E.2.2 (Int32.toNatClampNeg (x3 + 2))), .int (E.2.2 (Int32.toNatClampNeg (x3 + 3)))]) (rest := [.int v]) (pc := 1535) d_lw_law_1535 (ly_at hL1 55 rfl) lt13_12 rfl l_lw_190 i_mo_act v_mo_act o_mo_act rfl rfl (Nat.le_of_ble_eq_true rfl) rfl (Nat.le_of_ble_eq_true rfl) hu hev (fun r X2 hq => ?_)
  obtain ⟨rfl, N2, h2⟩ := hq
  show Ev E m_lw_law 1538 [(0, .float 100), (1, .ref 0), (2, .ref 55), (3, .int x3)] [.int v, .int v] X2 (u.1 + 0, u.2 + 0) Q
  exact ev_icmp_eq (pc := 1538) (tgt := 1771) d_lw_law_1538 (by decide) (fun _ => kk N2 S1 X2 h2) (fun c => absurd rfl c)
def PR_trace (E : gp_E) : Prop := ∀ {N : Nat → Nat} {S : gp_S} {X : gp_H}, Inv N S X → ∀ x1 : Int32, Ev E m_ga_trace 0 [(0, .ref 0), (1, .int x1)] [] X (0, 0) (gp_two E m_mo_trace [(0, .ref 55), (1, .int x1)])
theorem lc_trace {E : gp_E} {N : Nat → Nat} {S : gp_S} {X : gp_H} {u : Nat × Nat} {Q : Option Value → gp_H → Prop} {i : Nat} {x3 : Int32} (hp : PR_trace E) (h : Inv N S X) (hx : x3 = nI i) (hi : i + 6 ≤ E.2.1) (hL : E.2.1 ≤ 3072) (hu : u.1 + 0 ≤ 600000 ∧ u.2 + 0 ≤ 7302250) (kk : ∀ N2 S2 X2, Inv N2 S2 X2 → Ev E m_lw_law 1771 [(0, .float 100), (1, .ref 0), (2, .ref 55), (3, .int x3)] [] X2 (u.1 + 0, u.2 + 0) Q) : Ev E m_lw_law 1543 [(0, .float 100), (1, .ref 0), (2, .ref 55), (3, .int x3)] [] X u Q := by
  refine ev_aload_n (x := 0) (pc := 1543) d_lw_law_1543 rfl ?_
  refine ev_aload_nS (x := 100) (pc := 1544) d_lw_law_1544 rfl ?_
  refine ev_iload_n (x := x3) (pc := 1545) d_lw_law_1545 rfl ?_
  refine ev_iconst (v := 1) (pc := 1546) d_lw_law_1546 kc_i_1 ?_
  refine ev_iadd (pc := 1547) d_lw_law_1547 ?_
  refine ev_scld (pc := 1548) d_lw_law_1548 (sc_in (j := 1) hx rfl (by decide) hi hL) ?_
  refine ev_callV (z := m_ga_trace) (as := [.int (E.2.2 (Int32.toNatClampNeg (x3 + 1)))]) (rest := []) (pc := 1549) d_lw_law_1549 (ly_at h.lay 0 rfl) lt13_11 rfl l_lw_191 i_ga_trace v_ga_trace o_ga_trace rfl rfl (Nat.le_of_ble_eq_true rfl) rfl (Nat.le_of_ble_eq_true rfl) hu (hp h (E.2.2 (Int32.toNatClampNeg (x3 + 1)))) (fun r X1 hq => ?_)
  obtain ⟨v, S1, rfl, hL1, hev⟩ := hq
  show Ev E m_lw_law 1552 [(0, .float 100), (1, .ref 0), (2, .ref 55), (3, .int x3)] [.int v] X1 (u.1 + 0, u.2 + 0) Q
  refine ev_aload_n (x := 55) (pc := 1552) d_lw_law_1552 rfl ?_
  refine ev_aload_nS (x := 100) (pc := 1553) d_lw_law_1553 rfl ?_
  refine ev_iload_n (x := x3) (pc := 1554) d_lw_law_1554 rfl ?_
  refine ev_iconst (v := 1) (pc := 1555) d_lw_law_1555 kc_i_1 ?_
  refine ev_iadd (pc := 1556) d_lw_law_1556 ?_
  refine ev_scld (pc := 1557) d_lw_law_1557 (sc_in (j := 1) hx rfl (by decide) hi hL) ?_
  refine ev_callV (z := m_mo_trace) (as := [.int (E.2.2 (Int32.toNatClampNeg (x3 + 1)))]) (rest := [.int v]) (pc := 1558) d_lw_law_1558 (ly_at hL1 55 rfl) lt13_12 rfl l_lw_194 i_mo_trace v_mo_trace o_mo_trace rfl rfl (Nat.le_of_ble_eq_true rfl) rfl (Nat.le_of_ble_eq_true rfl) hu hev (fun r X2 hq => ?_)
  obtain ⟨rfl, N2, h2⟩ := hq
  show Ev E m_lw_law 1561 [(0, .float 100), (1, .ref 0), (2, .ref 55), (3, .int x3)] [.int v, .int v] X2 (u.1 + 0, u.2 + 0) Q
  exact ev_icmp_eq (pc := 1561) (tgt := 1771) d_lw_law_1561 (by decide) (fun _ => kk N2 S1 X2 h2) (fun c => absurd rfl c)
def PR_taken (E : gp_E) : Prop := ∀ {N : Nat → Nat} {S : gp_S} {X : gp_H}, Inv N S X → ∀ x1 x2 : Int32, Ev E m_ga_taken 0 [(0, .ref 0), (1, .int x1), (2, .int x2)] [] X (0, 0) (gp_two E m_mo_taken [(0, .ref 55), (1, .int x1), (2, .int x2)])
theorem lc_taken {E : gp_E} {N : Nat → Nat} {S : gp_S} {X : gp_H} {u : Nat × Nat} {Q : Option Value → gp_H → Prop} {i : Nat} {x3 : Int32} (hp : PR_taken E) (h : Inv N S X) (hx : x3 = nI i) (hi : i + 6 ≤ E.2.1) (hL : E.2.1 ≤ 3072) (hu : u.1 + 0 ≤ 600000 ∧ u.2 + 0 ≤ 7302250) (kk : ∀ N2 S2 X2, Inv N2 S2 X2 → Ev E m_lw_law 1771 [(0, .float 100), (1, .ref 0), (2, .ref 55), (3, .int x3)] [] X2 (u.1 + 0, u.2 + 0) Q) : Ev E m_lw_law 1566 [(0, .float 100), (1, .ref 0), (2, .ref 55), (3, .int x3)] [] X u Q := by
  refine ev_aload_n (x := 0) (pc := 1566) d_lw_law_1566 rfl ?_
  refine ev_aload_nS (x := 100) (pc := 1567) d_lw_law_1567 rfl ?_
  refine ev_iload_n (x := x3) (pc := 1568) d_lw_law_1568 rfl ?_
  refine ev_iconst (v := 1) (pc := 1569) d_lw_law_1569 kc_i_1 ?_
  refine ev_iadd (pc := 1570) d_lw_law_1570 ?_
  refine ev_scld (pc := 1571) d_lw_law_1571 (sc_in (j := 1) hx rfl (by decide) hi hL) ?_
  refine ev_aload_nS (x := 100) (pc := 1572) d_lw_law_1572 rfl ?_
  refine ev_iload_n (x := x3) (pc := 1573) d_lw_law_1573 rfl ?_
  refine ev_iconst (v := 2) (pc := 1574) d_lw_law_1574 kc_i_2 ?_
  refine ev_iadd (pc := 1575) d_lw_law_1575 ?_
  refine ev_scld (pc := 1576) d_lw_law_1576 (sc_in (j := 2) hx rfl (by decide) hi hL) ?_
  refine ev_callV (z := m_ga_taken) (as := [.int (E.2.2 (Int32.toNatClampNeg (x3 + 1))), .int (E.2.2 (Int32.toNatClampNeg (x3 + 2)))]) (rest := []) (pc := 1577) d_lw_law_1577 (ly_at h.lay 0 rfl) lt13_11 rfl l_lw_195 i_ga_taken v_ga_taken o_ga_taken rfl rfl (Nat.le_of_ble_eq_true rfl) rfl (Nat.le_of_ble_eq_true rfl) hu (hp h (E.2.2 (Int32.toNatClampNeg (x3 + 1))) (E.2.2 (Int32.toNatClampNeg (x3 + 2)))) (fun r X1 hq => ?_)
  obtain ⟨v, S1, rfl, hL1, hev⟩ := hq
  show Ev E m_lw_law 1580 [(0, .float 100), (1, .ref 0), (2, .ref 55), (3, .int x3)] [.int v] X1 (u.1 + 0, u.2 + 0) Q
  refine ev_aload_n (x := 55) (pc := 1580) d_lw_law_1580 rfl ?_
  refine ev_aload_nS (x := 100) (pc := 1581) d_lw_law_1581 rfl ?_
  refine ev_iload_n (x := x3) (pc := 1582) d_lw_law_1582 rfl ?_
  refine ev_iconst (v := 1) (pc := 1583) d_lw_law_1583 kc_i_1 ?_
  refine ev_iadd (pc := 1584) d_lw_law_1584 ?_
  refine ev_scld (pc := 1585) d_lw_law_1585 (sc_in (j := 1) hx rfl (by decide) hi hL) ?_
  refine ev_aload_nS (x := 100) (pc := 1586) d_lw_law_1586 rfl ?_
  refine ev_iload_n (x := x3) (pc := 1587) d_lw_law_1587 rfl ?_
  refine ev_iconst (v := 2) (pc := 1588) d_lw_law_1588 kc_i_2 ?_
  refine ev_iadd (pc := 1589) d_lw_law_1589 ?_
  refine ev_scld (pc := 1590) d_lw_law_1590 (sc_in (j := 2) hx rfl (by decide) hi hL) ?_
  refine ev_callV (z := m_mo_taken) (as := [.int (E.2.2 (Int32.toNatClampNeg (x3 + 1))), .int (E.2.2 (Int32.toNatClampNeg (x3 + 2)))]) (rest := [.int v]) (pc := 1591) d_lw_law_1591 (ly_at hL1 55 rfl) lt13_12 rfl l_lw_198 i_mo_taken v_mo_taken o_mo_taken rfl rfl (Nat.le_of_ble_eq_true rfl) rfl (Nat.le_of_ble_eq_true rfl) hu hev (fun r X2 hq => ?_)
  obtain ⟨rfl, N2, h2⟩ := hq
  show Ev E m_lw_law 1594 [(0, .float 100), (1, .ref 0), (2, .ref 55), (3, .int x3)] [.int v, .int v] X2 (u.1 + 0, u.2 + 0) Q
  exact ev_icmp_eq (pc := 1594) (tgt := 1771) d_lw_law_1594 (by decide) (fun _ => kk N2 S1 X2 h2) (fun c => absurd rfl c)
def PR_count (E : gp_E) : Prop := ∀ {N : Nat → Nat} {S : gp_S} {X : gp_H}, Inv N S X → ∀ x1 : Int32, Ev E m_ga_count 0 [(0, .ref 0), (1, .int x1)] [] X (0, 0) (gp_two E m_mo_count [(0, .ref 55), (1, .int x1)])
theorem lc_count {E : gp_E} {N : Nat → Nat} {S : gp_S} {X : gp_H} {u : Nat × Nat} {Q : Option Value → gp_H → Prop} {i : Nat} {x3 : Int32} (hp : PR_count E) (h : Inv N S X) (hx : x3 = nI i) (hi : i + 6 ≤ E.2.1) (hL : E.2.1 ≤ 3072) (hu : u.1 + 0 ≤ 600000 ∧ u.2 + 0 ≤ 7302250) (kk : ∀ N2 S2 X2, Inv N2 S2 X2 → Ev E m_lw_law 1771 [(0, .float 100), (1, .ref 0), (2, .ref 55), (3, .int x3)] [] X2 (u.1 + 0, u.2 + 0) Q) : Ev E m_lw_law 1599 [(0, .float 100), (1, .ref 0), (2, .ref 55), (3, .int x3)] [] X u Q := by
  refine ev_aload_n (x := 0) (pc := 1599) d_lw_law_1599 rfl ?_
  refine ev_aload_nS (x := 100) (pc := 1600) d_lw_law_1600 rfl ?_
  refine ev_iload_n (x := x3) (pc := 1601) d_lw_law_1601 rfl ?_
  refine ev_iconst (v := 1) (pc := 1602) d_lw_law_1602 kc_i_1 ?_
  refine ev_iadd (pc := 1603) d_lw_law_1603 ?_
  refine ev_scld (pc := 1604) d_lw_law_1604 (sc_in (j := 1) hx rfl (by decide) hi hL) ?_
  refine ev_callV (z := m_ga_count) (as := [.int (E.2.2 (Int32.toNatClampNeg (x3 + 1)))]) (rest := []) (pc := 1605) d_lw_law_1605 (ly_at h.lay 0 rfl) lt13_11 rfl l_lw_199 i_ga_count v_ga_count o_ga_count rfl rfl (Nat.le_of_ble_eq_true rfl) rfl (Nat.le_of_ble_eq_true rfl) hu (hp h (E.2.2 (Int32.toNatClampNeg (x3 + 1)))) (fun r X1 hq => ?_)
  obtain ⟨v, S1, rfl, hL1, hev⟩ := hq
  show Ev E m_lw_law 1608 [(0, .float 100), (1, .ref 0), (2, .ref 55), (3, .int x3)] [.int v] X1 (u.1 + 0, u.2 + 0) Q
  refine ev_aload_n (x := 55) (pc := 1608) d_lw_law_1608 rfl ?_
  refine ev_aload_nS (x := 100) (pc := 1609) d_lw_law_1609 rfl ?_
  refine ev_iload_n (x := x3) (pc := 1610) d_lw_law_1610 rfl ?_
  refine ev_iconst (v := 1) (pc := 1611) d_lw_law_1611 kc_i_1 ?_
  refine ev_iadd (pc := 1612) d_lw_law_1612 ?_
  refine ev_scld (pc := 1613) d_lw_law_1613 (sc_in (j := 1) hx rfl (by decide) hi hL) ?_
  refine ev_callV (z := m_mo_count) (as := [.int (E.2.2 (Int32.toNatClampNeg (x3 + 1)))]) (rest := [.int v]) (pc := 1614) d_lw_law_1614 (ly_at hL1 55 rfl) lt13_12 rfl l_lw_202 i_mo_count v_mo_count o_mo_count rfl rfl (Nat.le_of_ble_eq_true rfl) rfl (Nat.le_of_ble_eq_true rfl) hu hev (fun r X2 hq => ?_)
  obtain ⟨rfl, N2, h2⟩ := hq
  show Ev E m_lw_law 1617 [(0, .float 100), (1, .ref 0), (2, .ref 55), (3, .int x3)] [.int v, .int v] X2 (u.1 + 0, u.2 + 0) Q
  exact ev_icmp_eq (pc := 1617) (tgt := 1771) d_lw_law_1617 (by decide) (fun _ => kk N2 S1 X2 h2) (fun c => absurd rfl c)
def PR_sheet (E : gp_E) : Prop := ∀ {N : Nat → Nat} {S : gp_S} {X : gp_H}, Inv N S X → ∀ x1 x2 x3 : Int32, Ev E m_ga_sheet 0 [(0, .ref 0), (1, .int x1), (2, .int x2), (3, .int x3)] [] X (0, 0) (gp_two E m_mo_sheet [(0, .ref 55), (1, .int x1), (2, .int x2), (3, .int x3)])
theorem lc_sheet {E : gp_E} {N : Nat → Nat} {S : gp_S} {X : gp_H} {u : Nat × Nat} {Q : Option Value → gp_H → Prop} {i : Nat} {x3 : Int32} (hp : PR_sheet E) (h : Inv N S X) (hx : x3 = nI i) (hi : i + 6 ≤ E.2.1) (hL : E.2.1 ≤ 3072) (hu : u.1 + 0 ≤ 600000 ∧ u.2 + 0 ≤ 7302250) (kk : ∀ N2 S2 X2, Inv N2 S2 X2 → Ev E m_lw_law 1771 [(0, .float 100), (1, .ref 0), (2, .ref 55), (3, .int x3)] [] X2 (u.1 + 0, u.2 + 0) Q) : Ev E m_lw_law 1622 [(0, .float 100), (1, .ref 0), (2, .ref 55), (3, .int x3)] [] X u Q := by
  refine ev_aload_n (x := 0) (pc := 1622) d_lw_law_1622 rfl ?_
  refine ev_aload_nS (x := 100) (pc := 1623) d_lw_law_1623 rfl ?_
  refine ev_iload_n (x := x3) (pc := 1624) d_lw_law_1624 rfl ?_
  refine ev_iconst (v := 1) (pc := 1625) d_lw_law_1625 kc_i_1 ?_
  refine ev_iadd (pc := 1626) d_lw_law_1626 ?_
  refine ev_scld (pc := 1627) d_lw_law_1627 (sc_in (j := 1) hx rfl (by decide) hi hL) ?_
  refine ev_aload_nS (x := 100) (pc := 1628) d_lw_law_1628 rfl ?_
  refine ev_iload_n (x := x3) (pc := 1629) d_lw_law_1629 rfl ?_
  refine ev_iconst (v := 2) (pc := 1630) d_lw_law_1630 kc_i_2 ?_
  refine ev_iadd (pc := 1631) d_lw_law_1631 ?_
  refine ev_scld (pc := 1632) d_lw_law_1632 (sc_in (j := 2) hx rfl (by decide) hi hL) ?_
  refine ev_aload_nS (x := 100) (pc := 1633) d_lw_law_1633 rfl ?_
  refine ev_iload_n (x := x3) (pc := 1634) d_lw_law_1634 rfl ?_
  refine ev_iconst (v := 3) (pc := 1635) d_lw_law_1635 kc_i_3 ?_
  refine ev_iadd (pc := 1636) d_lw_law_1636 ?_
  refine ev_scld (pc := 1637) d_lw_law_1637 (sc_in (j := 3) hx rfl (by decide) hi hL) ?_
  refine ev_callV (z := m_ga_sheet) (as := [.int (E.2.2 (Int32.toNatClampNeg (x3 + 1))), .int (E.2.2 (Int32.toNatClampNeg (x3 + 2))), .int (E.2.2 (Int32.toNatClampNeg (x3 + 3)))]) (rest := []) (pc := 1638) d_lw_law_1638 (ly_at h.lay 0 rfl) lt13_11 rfl l_lw_203 i_ga_sheet v_ga_sheet o_ga_sheet rfl rfl (Nat.le_of_ble_eq_true rfl) rfl (Nat.le_of_ble_eq_true rfl) hu (hp h (E.2.2 (Int32.toNatClampNeg (x3 + 1))) (E.2.2 (Int32.toNatClampNeg (x3 + 2))) (E.2.2 (Int32.toNatClampNeg (x3 + 3)))) (fun r X1 hq => ?_)
  obtain ⟨v, S1, rfl, hL1, hev⟩ := hq
  show Ev E m_lw_law 1641 [(0, .float 100), (1, .ref 0), (2, .ref 55), (3, .int x3)] [.int v] X1 (u.1 + 0, u.2 + 0) Q
  refine ev_aload_n (x := 55) (pc := 1641) d_lw_law_1641 rfl ?_
  refine ev_aload_nS (x := 100) (pc := 1642) d_lw_law_1642 rfl ?_
  refine ev_iload_n (x := x3) (pc := 1643) d_lw_law_1643 rfl ?_
  refine ev_iconst (v := 1) (pc := 1644) d_lw_law_1644 kc_i_1 ?_
  refine ev_iadd (pc := 1645) d_lw_law_1645 ?_
  refine ev_scld (pc := 1646) d_lw_law_1646 (sc_in (j := 1) hx rfl (by decide) hi hL) ?_
  refine ev_aload_nS (x := 100) (pc := 1647) d_lw_law_1647 rfl ?_
  refine ev_iload_n (x := x3) (pc := 1648) d_lw_law_1648 rfl ?_
  refine ev_iconst (v := 2) (pc := 1649) d_lw_law_1649 kc_i_2 ?_
  refine ev_iadd (pc := 1650) d_lw_law_1650 ?_
  refine ev_scld (pc := 1651) d_lw_law_1651 (sc_in (j := 2) hx rfl (by decide) hi hL) ?_
  refine ev_aload_nS (x := 100) (pc := 1652) d_lw_law_1652 rfl ?_
  refine ev_iload_n (x := x3) (pc := 1653) d_lw_law_1653 rfl ?_
  refine ev_iconst (v := 3) (pc := 1654) d_lw_law_1654 kc_i_3 ?_
  refine ev_iadd (pc := 1655) d_lw_law_1655 ?_
  refine ev_scld (pc := 1656) d_lw_law_1656 (sc_in (j := 3) hx rfl (by decide) hi hL) ?_
  refine ev_callV (z := m_mo_sheet) (as := [.int (E.2.2 (Int32.toNatClampNeg (x3 + 1))), .int (E.2.2 (Int32.toNatClampNeg (x3 + 2))), .int (E.2.2 (Int32.toNatClampNeg (x3 + 3)))]) (rest := [.int v]) (pc := 1657) d_lw_law_1657 (ly_at hL1 55 rfl) lt13_12 rfl l_lw_206 i_mo_sheet v_mo_sheet o_mo_sheet rfl rfl (Nat.le_of_ble_eq_true rfl) rfl (Nat.le_of_ble_eq_true rfl) hu hev (fun r X2 hq => ?_)
  obtain ⟨rfl, N2, h2⟩ := hq
  show Ev E m_lw_law 1660 [(0, .float 100), (1, .ref 0), (2, .ref 55), (3, .int x3)] [.int v, .int v] X2 (u.1 + 0, u.2 + 0) Q
  exact ev_icmp_eq (pc := 1660) (tgt := 1771) d_lw_law_1660 (by decide) (fun _ => kk N2 S1 X2 h2) (fun c => absurd rfl c)
def PR_cell (E : gp_E) : Prop := ∀ {N : Nat → Nat} {S : gp_S} {X : gp_H}, Inv N S X → ∀ x1 x2 x3 : Int32, Ev E m_ga_cell 0 [(0, .ref 0), (1, .int x1), (2, .int x2), (3, .int x3)] [] X (0, 0) (gp_two E m_mo_cell [(0, .ref 55), (1, .int x1), (2, .int x2), (3, .int x3)])
theorem lc_cell {E : gp_E} {N : Nat → Nat} {S : gp_S} {X : gp_H} {u : Nat × Nat} {Q : Option Value → gp_H → Prop} {i : Nat} {x3 : Int32} (hp : PR_cell E) (h : Inv N S X) (hx : x3 = nI i) (hi : i + 6 ≤ E.2.1) (hL : E.2.1 ≤ 3072) (hu : u.1 + 0 ≤ 600000 ∧ u.2 + 0 ≤ 7302250) (kk : ∀ N2 S2 X2, Inv N2 S2 X2 → Ev E m_lw_law 1771 [(0, .float 100), (1, .ref 0), (2, .ref 55), (3, .int x3)] [] X2 (u.1 + 0, u.2 + 0) Q) : Ev E m_lw_law 1665 [(0, .float 100), (1, .ref 0), (2, .ref 55), (3, .int x3)] [] X u Q := by
  refine ev_aload_n (x := 0) (pc := 1665) d_lw_law_1665 rfl ?_
  refine ev_aload_nS (x := 100) (pc := 1666) d_lw_law_1666 rfl ?_
  refine ev_iload_n (x := x3) (pc := 1667) d_lw_law_1667 rfl ?_
  refine ev_iconst (v := 1) (pc := 1668) d_lw_law_1668 kc_i_1 ?_
  refine ev_iadd (pc := 1669) d_lw_law_1669 ?_
  refine ev_scld (pc := 1670) d_lw_law_1670 (sc_in (j := 1) hx rfl (by decide) hi hL) ?_
  refine ev_aload_nS (x := 100) (pc := 1671) d_lw_law_1671 rfl ?_
  refine ev_iload_n (x := x3) (pc := 1672) d_lw_law_1672 rfl ?_
  refine ev_iconst (v := 2) (pc := 1673) d_lw_law_1673 kc_i_2 ?_
  refine ev_iadd (pc := 1674) d_lw_law_1674 ?_
  refine ev_scld (pc := 1675) d_lw_law_1675 (sc_in (j := 2) hx rfl (by decide) hi hL) ?_
  refine ev_aload_nS (x := 100) (pc := 1676) d_lw_law_1676 rfl ?_
  refine ev_iload_n (x := x3) (pc := 1677) d_lw_law_1677 rfl ?_
  refine ev_iconst (v := 3) (pc := 1678) d_lw_law_1678 kc_i_3 ?_
  refine ev_iadd (pc := 1679) d_lw_law_1679 ?_
  refine ev_scld (pc := 1680) d_lw_law_1680 (sc_in (j := 3) hx rfl (by decide) hi hL) ?_
  refine ev_callV (z := m_ga_cell) (as := [.int (E.2.2 (Int32.toNatClampNeg (x3 + 1))), .int (E.2.2 (Int32.toNatClampNeg (x3 + 2))), .int (E.2.2 (Int32.toNatClampNeg (x3 + 3)))]) (rest := []) (pc := 1681) d_lw_law_1681 (ly_at h.lay 0 rfl) lt13_11 rfl l_lw_207 i_ga_cell v_ga_cell o_ga_cell rfl rfl (Nat.le_of_ble_eq_true rfl) rfl (Nat.le_of_ble_eq_true rfl) hu (hp h (E.2.2 (Int32.toNatClampNeg (x3 + 1))) (E.2.2 (Int32.toNatClampNeg (x3 + 2))) (E.2.2 (Int32.toNatClampNeg (x3 + 3)))) (fun r X1 hq => ?_)
  obtain ⟨v, S1, rfl, hL1, hev⟩ := hq
  show Ev E m_lw_law 1684 [(0, .float 100), (1, .ref 0), (2, .ref 55), (3, .int x3)] [.int v] X1 (u.1 + 0, u.2 + 0) Q
  refine ev_aload_n (x := 55) (pc := 1684) d_lw_law_1684 rfl ?_
  refine ev_aload_nS (x := 100) (pc := 1685) d_lw_law_1685 rfl ?_
  refine ev_iload_n (x := x3) (pc := 1686) d_lw_law_1686 rfl ?_
  refine ev_iconst (v := 1) (pc := 1687) d_lw_law_1687 kc_i_1 ?_
  refine ev_iadd (pc := 1688) d_lw_law_1688 ?_
  refine ev_scld (pc := 1689) d_lw_law_1689 (sc_in (j := 1) hx rfl (by decide) hi hL) ?_
  refine ev_aload_nS (x := 100) (pc := 1690) d_lw_law_1690 rfl ?_
  refine ev_iload_n (x := x3) (pc := 1691) d_lw_law_1691 rfl ?_
  refine ev_iconst (v := 2) (pc := 1692) d_lw_law_1692 kc_i_2 ?_
  refine ev_iadd (pc := 1693) d_lw_law_1693 ?_
  refine ev_scld (pc := 1694) d_lw_law_1694 (sc_in (j := 2) hx rfl (by decide) hi hL) ?_
  refine ev_aload_nS (x := 100) (pc := 1695) d_lw_law_1695 rfl ?_
  refine ev_iload_n (x := x3) (pc := 1696) d_lw_law_1696 rfl ?_
  refine ev_iconst (v := 3) (pc := 1697) d_lw_law_1697 kc_i_3 ?_
  refine ev_iadd (pc := 1698) d_lw_law_1698 ?_
  refine ev_scld (pc := 1699) d_lw_law_1699 (sc_in (j := 3) hx rfl (by decide) hi hL) ?_
  refine ev_callV (z := m_mo_cell) (as := [.int (E.2.2 (Int32.toNatClampNeg (x3 + 1))), .int (E.2.2 (Int32.toNatClampNeg (x3 + 2))), .int (E.2.2 (Int32.toNatClampNeg (x3 + 3)))]) (rest := [.int v]) (pc := 1700) d_lw_law_1700 (ly_at hL1 55 rfl) lt13_12 rfl l_lw_210 i_mo_cell v_mo_cell o_mo_cell rfl rfl (Nat.le_of_ble_eq_true rfl) rfl (Nat.le_of_ble_eq_true rfl) hu hev (fun r X2 hq => ?_)
  obtain ⟨rfl, N2, h2⟩ := hq
  show Ev E m_lw_law 1703 [(0, .float 100), (1, .ref 0), (2, .ref 55), (3, .int x3)] [.int v, .int v] X2 (u.1 + 0, u.2 + 0) Q
  exact ev_icmp_eq (pc := 1703) (tgt := 1771) d_lw_law_1703 (by decide) (fun _ => kk N2 S1 X2 h2) (fun c => absurd rfl c)
def PR_copy (E : gp_E) : Prop := ∀ {N : Nat → Nat} {S : gp_S} {X : gp_H}, Inv N S X → ∀ x1 x2 x3 x4 x5 : Int32, Ev E m_ga_copy 0 [(0, .ref 0), (1, .int x1), (2, .int x2), (3, .int x3), (4, .int x4), (5, .int x5)] [] X (0, 0) (gp_two E m_mo_copy [(0, .ref 55), (1, .int x1), (2, .int x2), (3, .int x3), (4, .int x4), (5, .int x5)])
theorem lc_copy {E : gp_E} {N : Nat → Nat} {S : gp_S} {X : gp_H} {u : Nat × Nat} {Q : Option Value → gp_H → Prop} {i : Nat} {x3 : Int32} (hp : PR_copy E) (h : Inv N S X) (hx : x3 = nI i) (hi : i + 6 ≤ E.2.1) (hL : E.2.1 ≤ 3072) (hu : u.1 + 0 ≤ 600000 ∧ u.2 + 0 ≤ 7302250) (kk : ∀ N2 S2 X2, Inv N2 S2 X2 → Ev E m_lw_law 1771 [(0, .float 100), (1, .ref 0), (2, .ref 55), (3, .int x3)] [] X2 (u.1 + 0, u.2 + 0) Q) : Ev E m_lw_law 1708 [(0, .float 100), (1, .ref 0), (2, .ref 55), (3, .int x3)] [] X u Q := by
  refine ev_aload_n (x := 0) (pc := 1708) d_lw_law_1708 rfl ?_
  refine ev_aload_nS (x := 100) (pc := 1709) d_lw_law_1709 rfl ?_
  refine ev_iload_n (x := x3) (pc := 1710) d_lw_law_1710 rfl ?_
  refine ev_iconst (v := 1) (pc := 1711) d_lw_law_1711 kc_i_1 ?_
  refine ev_iadd (pc := 1712) d_lw_law_1712 ?_
  refine ev_scld (pc := 1713) d_lw_law_1713 (sc_in (j := 1) hx rfl (by decide) hi hL) ?_
  refine ev_aload_nS (x := 100) (pc := 1714) d_lw_law_1714 rfl ?_
  refine ev_iload_n (x := x3) (pc := 1715) d_lw_law_1715 rfl ?_
  refine ev_iconst (v := 2) (pc := 1716) d_lw_law_1716 kc_i_2 ?_
  refine ev_iadd (pc := 1717) d_lw_law_1717 ?_
  refine ev_scld (pc := 1718) d_lw_law_1718 (sc_in (j := 2) hx rfl (by decide) hi hL) ?_
  refine ev_aload_nS (x := 100) (pc := 1719) d_lw_law_1719 rfl ?_
  refine ev_iload_n (x := x3) (pc := 1720) d_lw_law_1720 rfl ?_
  refine ev_iconst (v := 3) (pc := 1721) d_lw_law_1721 kc_i_3 ?_
  refine ev_iadd (pc := 1722) d_lw_law_1722 ?_
  refine ev_scld (pc := 1723) d_lw_law_1723 (sc_in (j := 3) hx rfl (by decide) hi hL) ?_
  refine ev_aload_nS (x := 100) (pc := 1724) d_lw_law_1724 rfl ?_
  refine ev_iload_n (x := x3) (pc := 1725) d_lw_law_1725 rfl ?_
  refine ev_iconst (v := 4) (pc := 1726) d_lw_law_1726 kc_i_4 ?_
  refine ev_iadd (pc := 1727) d_lw_law_1727 ?_
  refine ev_scld (pc := 1728) d_lw_law_1728 (sc_in (j := 4) hx rfl (by decide) hi hL) ?_
  refine ev_aload_nS (x := 100) (pc := 1729) d_lw_law_1729 rfl ?_
  refine ev_iload_n (x := x3) (pc := 1730) d_lw_law_1730 rfl ?_
  refine ev_iconst (v := 5) (pc := 1731) d_lw_law_1731 kc_i_5 ?_
  refine ev_iadd (pc := 1732) d_lw_law_1732 ?_
  refine ev_scld (pc := 1733) d_lw_law_1733 (sc_in (j := 5) hx rfl (by decide) hi hL) ?_
  refine ev_callV (z := m_ga_copy) (as := [.int (E.2.2 (Int32.toNatClampNeg (x3 + 1))), .int (E.2.2 (Int32.toNatClampNeg (x3 + 2))), .int (E.2.2 (Int32.toNatClampNeg (x3 + 3))), .int (E.2.2 (Int32.toNatClampNeg (x3 + 4))), .int (E.2.2 (Int32.toNatClampNeg (x3 + 5)))]) (rest := []) (pc := 1734) d_lw_law_1734 (ly_at h.lay 0 rfl) lt13_11 rfl l_lw_211 i_ga_copy v_ga_copy o_ga_copy rfl rfl (Nat.le_of_ble_eq_true rfl) rfl (Nat.le_of_ble_eq_true rfl) hu (hp h (E.2.2 (Int32.toNatClampNeg (x3 + 1))) (E.2.2 (Int32.toNatClampNeg (x3 + 2))) (E.2.2 (Int32.toNatClampNeg (x3 + 3))) (E.2.2 (Int32.toNatClampNeg (x3 + 4))) (E.2.2 (Int32.toNatClampNeg (x3 + 5)))) (fun r X1 hq => ?_)
  obtain ⟨v, S1, rfl, hL1, hev⟩ := hq
  show Ev E m_lw_law 1737 [(0, .float 100), (1, .ref 0), (2, .ref 55), (3, .int x3)] [.int v] X1 (u.1 + 0, u.2 + 0) Q
  refine ev_aload_n (x := 55) (pc := 1737) d_lw_law_1737 rfl ?_
  refine ev_aload_nS (x := 100) (pc := 1738) d_lw_law_1738 rfl ?_
  refine ev_iload_n (x := x3) (pc := 1739) d_lw_law_1739 rfl ?_
  refine ev_iconst (v := 1) (pc := 1740) d_lw_law_1740 kc_i_1 ?_
  refine ev_iadd (pc := 1741) d_lw_law_1741 ?_
  refine ev_scld (pc := 1742) d_lw_law_1742 (sc_in (j := 1) hx rfl (by decide) hi hL) ?_
  refine ev_aload_nS (x := 100) (pc := 1743) d_lw_law_1743 rfl ?_
  refine ev_iload_n (x := x3) (pc := 1744) d_lw_law_1744 rfl ?_
  refine ev_iconst (v := 2) (pc := 1745) d_lw_law_1745 kc_i_2 ?_
  refine ev_iadd (pc := 1746) d_lw_law_1746 ?_
  refine ev_scld (pc := 1747) d_lw_law_1747 (sc_in (j := 2) hx rfl (by decide) hi hL) ?_
  refine ev_aload_nS (x := 100) (pc := 1748) d_lw_law_1748 rfl ?_
  refine ev_iload_n (x := x3) (pc := 1749) d_lw_law_1749 rfl ?_
  refine ev_iconst (v := 3) (pc := 1750) d_lw_law_1750 kc_i_3 ?_
  refine ev_iadd (pc := 1751) d_lw_law_1751 ?_
  refine ev_scld (pc := 1752) d_lw_law_1752 (sc_in (j := 3) hx rfl (by decide) hi hL) ?_
  refine ev_aload_nS (x := 100) (pc := 1753) d_lw_law_1753 rfl ?_
  refine ev_iload_n (x := x3) (pc := 1754) d_lw_law_1754 rfl ?_
  refine ev_iconst (v := 4) (pc := 1755) d_lw_law_1755 kc_i_4 ?_
  refine ev_iadd (pc := 1756) d_lw_law_1756 ?_
  refine ev_scld (pc := 1757) d_lw_law_1757 (sc_in (j := 4) hx rfl (by decide) hi hL) ?_
  refine ev_aload_nS (x := 100) (pc := 1758) d_lw_law_1758 rfl ?_
  refine ev_iload_n (x := x3) (pc := 1759) d_lw_law_1759 rfl ?_
  refine ev_iconst (v := 5) (pc := 1760) d_lw_law_1760 kc_i_5 ?_
  refine ev_iadd (pc := 1761) d_lw_law_1761 ?_
  refine ev_scld (pc := 1762) d_lw_law_1762 (sc_in (j := 5) hx rfl (by decide) hi hL) ?_
  refine ev_callV (z := m_mo_copy) (as := [.int (E.2.2 (Int32.toNatClampNeg (x3 + 1))), .int (E.2.2 (Int32.toNatClampNeg (x3 + 2))), .int (E.2.2 (Int32.toNatClampNeg (x3 + 3))), .int (E.2.2 (Int32.toNatClampNeg (x3 + 4))), .int (E.2.2 (Int32.toNatClampNeg (x3 + 5)))]) (rest := [.int v]) (pc := 1763) d_lw_law_1763 (ly_at hL1 55 rfl) lt13_12 rfl l_lw_214 i_mo_copy v_mo_copy o_mo_copy rfl rfl (Nat.le_of_ble_eq_true rfl) rfl (Nat.le_of_ble_eq_true rfl) hu hev (fun r X2 hq => ?_)
  obtain ⟨rfl, N2, h2⟩ := hq
  show Ev E m_lw_law 1766 [(0, .float 100), (1, .ref 0), (2, .ref 55), (3, .int x3)] [.int v, .int v] X2 (u.1 + 0, u.2 + 0) Q
  exact ev_icmp_eq (pc := 1766) (tgt := 1771) d_lw_law_1766 (by decide) (fun _ => kk N2 S1 X2 h2) (fun c => absurd rfl c)
/-- all 49 -/
def PR_all (E : gp_E) : Prop := PR_knot E ∧ PR_pipe E ∧ PR_valve E ∧ PR_lost E ∧ PR_pipeOf E ∧ PR_works E ∧ PR_close E ∧ PR_work E ∧ PR_terminal E ∧ PR_gas E ∧ PR_area E ∧ PR_pressure E ∧ PR_step E ∧ PR_model E ∧ PR_home E ∧ PR_survey E ∧ PR_lay E ∧ PR_known E ∧ PR_need E ∧ PR_homeOf E ∧ PR_stock E ∧ PR_order E ∧ PR_sector E ∧ PR_why E ∧ PR_best E ∧ PR_bestAt E ∧ PR_plan E ∧ PR_unplan E ∧ PR_shortOf E ∧ PR_fitter E ∧ PR_change E ∧ PR_week E ∧ PR_later E ∧ PR_danger E ∧ PR_smell E ∧ PR_smellOf E ∧ PR_limit E ∧ PR_fault E ∧ PR_beyond E ∧ PR_feed E ∧ PR_law E ∧ PR_bill E ∧ PR_act E ∧ PR_trace E ∧ PR_taken E ∧ PR_count E ∧ PR_sheet E ∧ PR_cell E ∧ PR_copy E
set_option maxHeartbeats 4000000 in
/-- THE LAW'S LOOP -/
theorem law_loop {E : gp_E} (hL : E.2.1 ≤ 3072) (hp : PR_all E) : ∀ (n k : Nat), 6 * k ≤ E.2.1 + 6 → 520 ≤ k + n → ∀ {N : Nat → Nat} {S : gp_S} {X : gp_H} {u : Nat × Nat}, Inv N S X → u.1 ≤ 200 + k → u.2 ≤ 6000 + 10 * k → Ev E m_lw_law 18 [(0, .float 100), (1, .ref 0), (2, .ref 55), (3, .int (nI (6 * k)))] [] X u (fun r _ => r = some (.int 1)) := by
  intro n
  induction n with
  | zero => intro k h1 h2; exact absurd h2 (by omega)
  | succ n ih =>
    intro k hk1 hk2 N S X u h hu1 hu2
    have hu0 : u.1 ≤ 600000 ∧ u.2 ≤ 7302250 := by constructor <;> omega
    refine ev_iload_n (x := nI (6 * k)) (pc := 18) d_lw_law_18 rfl ?_
    refine ev_aload_nS (x := 100) (pc := 19) d_lw_law_19 rfl ?_
    refine ev_sclen (pc := 20) d_lw_law_20 ?_
    refine ev_bipush (v := 6) (pc := 21) d_lw_law_21 kc_b_6 ?_
    refine ev_isub (pc := 23) d_lw_law_23 ?_
    refine ev_icmp_gt (pc := 24) (tgt := 1777) d_lw_law_24 (by decide) (fun c => ?_) (fun c => ?_)
    · refine ev_iconst (v := 1) (pc := 1777) d_lw_law_1777 kc_i_1 ?_
      exact ev_iret (pc := 1778) hu0 d_lw_law_1778 rfl nb_1 rfl
    · have hi : 6 * k + 6 ≤ E.2.1 := by
        rw [Int32.lt_iff_toInt_lt, nI_toInt (by omega)] at c
        have e6 : (Int32.ofNat E.2.1 - 6).toInt = (E.2.1 : Int) - 6 := by
          show (nI E.2.1 - nI 6).toInt = _
          rw [pk_sub_toInt (by omega) (by omega)]; rfl
        rw [e6] at c
        omega
      have next : ∀ (N2 : Nat → Nat) (S2 : gp_S) (X2 : gp_H) (a b : Nat), a ≤ 1 → b ≤ 10 → Inv N2 S2 X2 → Ev E m_lw_law 1771 [(0, .float 100), (1, .ref 0), (2, .ref 55), (3, .int (nI (6 * k)))] [] X2 (u.1 + a, u.2 + b) (fun r _ => r = some (.int 1)) := by
        intro N2 S2 X2 a b ha hb h2
        refine ev_iinc (v := nI (6 * (k + 1))) (L2 := [(0, .float 100), (1, .ref 0), (2, .ref 55), (3, .int (nI (6 * (k + 1))))]) (pc := 1771) d_lw_law_1771 rfl ?_ rfl (Nat.le_of_ble_eq_true rfl) rfl ?_
        · show nI (6 * k) + nI 6 = _
          rw [nI_add]
          exact congrArg nI (by omega)
        · refine ev_goto (pc := 1774) (tgt := 18) d_lw_law_1774 (by decide) ?_
          exact ih (k + 1) (by omega) (by omega) h2 (by show u.1 + a ≤ _; omega) (by show u.2 + b ≤ _; omega)
      refine ev_aload_nS (x := 100) (pc := 27) d_lw_law_27 rfl ?_
      refine ev_iload_n (x := nI (6 * k)) (pc := 28) d_lw_law_28 rfl ?_
      refine ev_scld (pc := 29) d_lw_law_29 (vin (by omega) (by omega)) ?_
      refine ev_bipush (v := 63) (pc := 30) d_lw_law_30 kc_b_63 ?_
      refine ev_iand (pc := 32) d_lw_law_32 ?_
      generalize (E.2.2 (Int32.toNatClampNeg (nI (6 * k))) &&& 63) = w
      rcases gp_tab (lo := 0) (n := 49) w with c2 | ⟨j, hj, c2⟩
      · refine ev_tableOut (pc := 33) (tgt := 1771) d_lw_law_33 (by omega) (by decide) ?_
        exact next N S X 0 0 (by omega) (by omega) h
      · match j, hj, c2 with
        | 0, _, c2 =>
          have c3 : w = 0 := gp_eqi (c2.trans (by decide : (0 : Int) + ((0 : Nat) : Int) = 0)) (by decide)
          refine ev_tableIn (pc := 33) (off := 211) (tgt := 244) d_lw_law_33 (by rw [c3]; decide) (by rw [c3]; decide) (by rw [c3]; decide) (by decide) ?_
          exact lc_knot hp.1 h rfl hi hL (by constructor <;> omega) (fun N2 S2 X2 h2 => next N2 S2 X2 0 0 (by omega) (by omega) h2)
        | 1, _, c2 =>
          have c3 : w = 1 := gp_eqi (c2.trans (by decide : (0 : Int) + ((1 : Nat) : Int) = 1)) (by decide)
          refine ev_tableIn (pc := 33) (off := 224) (tgt := 257) d_lw_law_33 (by rw [c3]; decide) (by rw [c3]; decide) (by rw [c3]; decide) (by decide) ?_
          exact lc_pipe hp.2.1 h rfl hi hL (by constructor <;> omega) (fun N2 S2 X2 h2 => next N2 S2 X2 0 0 (by omega) (by omega) h2)
        | 2, _, c2 =>
          have c3 : w = 2 := gp_eqi (c2.trans (by decide : (0 : Int) + ((2 : Nat) : Int) = 2)) (by decide)
          refine ev_tableIn (pc := 33) (off := 267) (tgt := 300) d_lw_law_33 (by rw [c3]; decide) (by rw [c3]; decide) (by rw [c3]; decide) (by decide) ?_
          exact lc_valve hp.2.2.1 h rfl hi hL (by constructor <;> omega) (fun N2 S2 X2 h2 => next N2 S2 X2 0 0 (by omega) (by omega) h2)
        | 3, _, c2 =>
          have c3 : w = 3 := gp_eqi (c2.trans (by decide : (0 : Int) + ((3 : Nat) : Int) = 3)) (by decide)
          refine ev_tableIn (pc := 33) (off := 300) (tgt := 333) d_lw_law_33 (by rw [c3]; decide) (by rw [c3]; decide) (by rw [c3]; decide) (by decide) ?_
          exact lc_lost hp.2.2.2.1 h rfl hi hL (by constructor <;> omega) (fun N2 S2 X2 h2 => next N2 S2 X2 0 0 (by omega) (by omega) h2)
        | 4, _, c2 =>
          have c3 : w = 4 := gp_eqi (c2.trans (by decide : (0 : Int) + ((4 : Nat) : Int) = 4)) (by decide)
          refine ev_tableIn (pc := 33) (off := 323) (tgt := 356) d_lw_law_33 (by rw [c3]; decide) (by rw [c3]; decide) (by rw [c3]; decide) (by decide) ?_
          exact lc_pipeOf hp.2.2.2.2.1 h rfl hi hL (by constructor <;> omega) (fun N2 S2 X2 h2 => next N2 S2 X2 0 0 (by omega) (by omega) h2)
        | 5, _, c2 =>
          have c3 : w = 5 := gp_eqi (c2.trans (by decide : (0 : Int) + ((5 : Nat) : Int) = 5)) (by decide)
          refine ev_tableIn (pc := 33) (off := 356) (tgt := 389) d_lw_law_33 (by rw [c3]; decide) (by rw [c3]; decide) (by rw [c3]; decide) (by decide) ?_
          exact lc_works hp.2.2.2.2.2.1 h rfl hi hL (by constructor <;> omega) (fun N2 S2 X2 h2 => next N2 S2 X2 0 0 (by omega) (by omega) h2)
        | 6, _, c2 =>
          have c3 : w = 6 := gp_eqi (c2.trans (by decide : (0 : Int) + ((6 : Nat) : Int) = 6)) (by decide)
          refine ev_tableIn (pc := 33) (off := 399) (tgt := 432) d_lw_law_33 (by rw [c3]; decide) (by rw [c3]; decide) (by rw [c3]; decide) (by decide) ?_
          exact lc_close hp.2.2.2.2.2.2.1 h rfl hi hL (by constructor <;> omega) (fun N2 S2 X2 h2 => next N2 S2 X2 0 0 (by omega) (by omega) h2)
        | 7, _, c2 =>
          have c3 : w = 7 := gp_eqi (c2.trans (by decide : (0 : Int) + ((7 : Nat) : Int) = 7)) (by decide)
          refine ev_tableIn (pc := 33) (off := 422) (tgt := 455) d_lw_law_33 (by rw [c3]; decide) (by rw [c3]; decide) (by rw [c3]; decide) (by decide) ?_
          exact lc_work hp.2.2.2.2.2.2.2.1 h rfl hi hL (by constructor <;> omega) (fun N2 S2 X2 h2 => next N2 S2 X2 0 0 (by omega) (by omega) h2)
        | 8, _, c2 =>
          have c3 : w = 8 := gp_eqi (c2.trans (by decide : (0 : Int) + ((8 : Nat) : Int) = 8)) (by decide)
          refine ev_tableIn (pc := 33) (off := 455) (tgt := 488) d_lw_law_33 (by rw [c3]; decide) (by rw [c3]; decide) (by rw [c3]; decide) (by decide) ?_
          exact lc_terminal hp.2.2.2.2.2.2.2.2.1 h rfl hi hL (by constructor <;> omega) (fun N2 S2 X2 h2 => next N2 S2 X2 0 0 (by omega) (by omega) h2)
        | 9, _, c2 =>
          have c3 : w = 9 := gp_eqi (c2.trans (by decide : (0 : Int) + ((9 : Nat) : Int) = 9)) (by decide)
          refine ev_tableIn (pc := 33) (off := 478) (tgt := 511) d_lw_law_33 (by rw [c3]; decide) (by rw [c3]; decide) (by rw [c3]; decide) (by decide) ?_
          exact lc_gas hp.2.2.2.2.2.2.2.2.2.1 h rfl hi hL (by constructor <;> omega) (fun N2 S2 X2 h2 => next N2 S2 X2 0 0 (by omega) (by omega) h2)
        | 10, _, c2 =>
          have c3 : w = 10 := gp_eqi (c2.trans (by decide : (0 : Int) + ((10 : Nat) : Int) = 10)) (by decide)
          refine ev_tableIn (pc := 33) (off := 501) (tgt := 534) d_lw_law_33 (by rw [c3]; decide) (by rw [c3]; decide) (by rw [c3]; decide) (by decide) ?_
          exact lc_area hp.2.2.2.2.2.2.2.2.2.2.1 h rfl hi hL (by constructor <;> omega) (fun N2 S2 X2 h2 => next N2 S2 X2 0 0 (by omega) (by omega) h2)
        | 11, _, c2 =>
          have c3 : w = 11 := gp_eqi (c2.trans (by decide : (0 : Int) + ((11 : Nat) : Int) = 11)) (by decide)
          refine ev_tableIn (pc := 33) (off := 524) (tgt := 557) d_lw_law_33 (by rw [c3]; decide) (by rw [c3]; decide) (by rw [c3]; decide) (by decide) ?_
          exact lc_pressure hp.2.2.2.2.2.2.2.2.2.2.2.1 h rfl hi hL (by constructor <;> omega) (fun N2 S2 X2 h2 => next N2 S2 X2 0 0 (by omega) (by omega) h2)
        | 12, _, c2 =>
          have c3 : w = 12 := gp_eqi (c2.trans (by decide : (0 : Int) + ((12 : Nat) : Int) = 12)) (by decide)
          refine ev_tableIn (pc := 33) (off := 547) (tgt := 580) d_lw_law_33 (by rw [c3]; decide) (by rw [c3]; decide) (by rw [c3]; decide) (by decide) ?_
          exact lc_step hp.2.2.2.2.2.2.2.2.2.2.2.2.1 h rfl hi hL (by constructor <;> omega) (fun N2 S2 X2 h2 => next N2 S2 X2 0 0 (by omega) (by omega) h2)
        | 13, _, c2 =>
          have c3 : w = 13 := gp_eqi (c2.trans (by decide : (0 : Int) + ((13 : Nat) : Int) = 13)) (by decide)
          refine ev_tableIn (pc := 33) (off := 580) (tgt := 613) d_lw_law_33 (by rw [c3]; decide) (by rw [c3]; decide) (by rw [c3]; decide) (by decide) ?_
          exact lc_model hp.2.2.2.2.2.2.2.2.2.2.2.2.2.1 h rfl hi hL (by constructor <;> omega) (fun N2 S2 X2 h2 => next N2 S2 X2 1 6 (by omega) (by omega) h2)
        | 14, _, c2 =>
          have c3 : w = 14 := gp_eqi (c2.trans (by decide : (0 : Int) + ((14 : Nat) : Int) = 14)) (by decide)
          refine ev_tableIn (pc := 33) (off := 643) (tgt := 676) d_lw_law_33 (by rw [c3]; decide) (by rw [c3]; decide) (by rw [c3]; decide) (by decide) ?_
          exact lc_home hp.2.2.2.2.2.2.2.2.2.2.2.2.2.2.1 h rfl hi hL (by constructor <;> omega) (fun N2 S2 X2 h2 => next N2 S2 X2 1 10 (by omega) (by omega) h2)
        | 15, _, c2 =>
          have c3 : w = 15 := gp_eqi (c2.trans (by decide : (0 : Int) + ((15 : Nat) : Int) = 15)) (by decide)
          refine ev_tableIn (pc := 33) (off := 696) (tgt := 729) d_lw_law_33 (by rw [c3]; decide) (by rw [c3]; decide) (by rw [c3]; decide) (by decide) ?_
          exact lc_survey hp.2.2.2.2.2.2.2.2.2.2.2.2.2.2.2.1 h rfl hi hL (by constructor <;> omega) (fun N2 S2 X2 h2 => next N2 S2 X2 0 0 (by omega) (by omega) h2)
        | 16, _, c2 =>
          have c3 : w = 16 := gp_eqi (c2.trans (by decide : (0 : Int) + ((16 : Nat) : Int) = 16)) (by decide)
          refine ev_tableIn (pc := 33) (off := 729) (tgt := 762) d_lw_law_33 (by rw [c3]; decide) (by rw [c3]; decide) (by rw [c3]; decide) (by decide) ?_
          exact lc_lay hp.2.2.2.2.2.2.2.2.2.2.2.2.2.2.2.2.1 h rfl hi hL (by constructor <;> omega) (fun N2 S2 X2 h2 => next N2 S2 X2 0 0 (by omega) (by omega) h2)
        | 17, _, c2 =>
          have c3 : w = 17 := gp_eqi (c2.trans (by decide : (0 : Int) + ((17 : Nat) : Int) = 17)) (by decide)
          refine ev_tableIn (pc := 33) (off := 782) (tgt := 815) d_lw_law_33 (by rw [c3]; decide) (by rw [c3]; decide) (by rw [c3]; decide) (by decide) ?_
          exact lc_known hp.2.2.2.2.2.2.2.2.2.2.2.2.2.2.2.2.2.1 h rfl hi hL (by constructor <;> omega) (fun N2 S2 X2 h2 => next N2 S2 X2 0 0 (by omega) (by omega) h2)
        | 18, _, c2 =>
          have c3 : w = 18 := gp_eqi (c2.trans (by decide : (0 : Int) + ((18 : Nat) : Int) = 18)) (by decide)
          refine ev_tableIn (pc := 33) (off := 815) (tgt := 848) d_lw_law_33 (by rw [c3]; decide) (by rw [c3]; decide) (by rw [c3]; decide) (by decide) ?_
          exact lc_need hp.2.2.2.2.2.2.2.2.2.2.2.2.2.2.2.2.2.2.1 h rfl hi hL (by constructor <;> omega) (fun N2 S2 X2 h2 => next N2 S2 X2 0 0 (by omega) (by omega) h2)
        | 19, _, c2 =>
          have c3 : w = 19 := gp_eqi (c2.trans (by decide : (0 : Int) + ((19 : Nat) : Int) = 19)) (by decide)
          refine ev_tableIn (pc := 33) (off := 868) (tgt := 901) d_lw_law_33 (by rw [c3]; decide) (by rw [c3]; decide) (by rw [c3]; decide) (by decide) ?_
          exact lc_homeOf hp.2.2.2.2.2.2.2.2.2.2.2.2.2.2.2.2.2.2.2.1 h rfl hi hL (by constructor <;> omega) (fun N2 S2 X2 h2 => next N2 S2 X2 0 0 (by omega) (by omega) h2)
        | 20, _, c2 =>
          have c3 : w = 20 := gp_eqi (c2.trans (by decide : (0 : Int) + ((20 : Nat) : Int) = 20)) (by decide)
          refine ev_tableIn (pc := 33) (off := 901) (tgt := 934) d_lw_law_33 (by rw [c3]; decide) (by rw [c3]; decide) (by rw [c3]; decide) (by decide) ?_
          exact lc_stock hp.2.2.2.2.2.2.2.2.2.2.2.2.2.2.2.2.2.2.2.2.1 h rfl hi hL (by constructor <;> omega) (fun N2 S2 X2 h2 => next N2 S2 X2 0 0 (by omega) (by omega) h2)
        | 21, _, c2 =>
          have c3 : w = 21 := gp_eqi (c2.trans (by decide : (0 : Int) + ((21 : Nat) : Int) = 21)) (by decide)
          refine ev_tableIn (pc := 33) (off := 934) (tgt := 967) d_lw_law_33 (by rw [c3]; decide) (by rw [c3]; decide) (by rw [c3]; decide) (by decide) ?_
          exact lc_order hp.2.2.2.2.2.2.2.2.2.2.2.2.2.2.2.2.2.2.2.2.2.1 h rfl hi hL (by constructor <;> omega) (fun N2 S2 X2 h2 => next N2 S2 X2 0 0 (by omega) (by omega) h2)
        | 22, _, c2 =>
          have c3 : w = 22 := gp_eqi (c2.trans (by decide : (0 : Int) + ((22 : Nat) : Int) = 22)) (by decide)
          refine ev_tableIn (pc := 33) (off := 977) (tgt := 1010) d_lw_law_33 (by rw [c3]; decide) (by rw [c3]; decide) (by rw [c3]; decide) (by decide) ?_
          exact lc_sector hp.2.2.2.2.2.2.2.2.2.2.2.2.2.2.2.2.2.2.2.2.2.2.1 h rfl hi hL (by constructor <;> omega) (fun N2 S2 X2 h2 => next N2 S2 X2 0 0 (by omega) (by omega) h2)
        | 23, _, c2 =>
          have c3 : w = 23 := gp_eqi (c2.trans (by decide : (0 : Int) + ((23 : Nat) : Int) = 23)) (by decide)
          refine ev_tableIn (pc := 33) (off := 1000) (tgt := 1033) d_lw_law_33 (by rw [c3]; decide) (by rw [c3]; decide) (by rw [c3]; decide) (by decide) ?_
          exact lc_why hp.2.2.2.2.2.2.2.2.2.2.2.2.2.2.2.2.2.2.2.2.2.2.2.1 h rfl hi hL (by constructor <;> omega) (fun N2 S2 X2 h2 => next N2 S2 X2 0 0 (by omega) (by omega) h2)
        | 24, _, c2 =>
          have c3 : w = 24 := gp_eqi (c2.trans (by decide : (0 : Int) + ((24 : Nat) : Int) = 24)) (by decide)
          refine ev_tableIn (pc := 33) (off := 1023) (tgt := 1056) d_lw_law_33 (by rw [c3]; decide) (by rw [c3]; decide) (by rw [c3]; decide) (by decide) ?_
          exact lc_best hp.2.2.2.2.2.2.2.2.2.2.2.2.2.2.2.2.2.2.2.2.2.2.2.2.1 h rfl hi hL (by constructor <;> omega) (fun N2 S2 X2 h2 => next N2 S2 X2 0 0 (by omega) (by omega) h2)
        | 25, _, c2 =>
          have c3 : w = 25 := gp_eqi (c2.trans (by decide : (0 : Int) + ((25 : Nat) : Int) = 25)) (by decide)
          refine ev_tableIn (pc := 33) (off := 1036) (tgt := 1069) d_lw_law_33 (by rw [c3]; decide) (by rw [c3]; decide) (by rw [c3]; decide) (by decide) ?_
          exact lc_bestAt hp.2.2.2.2.2.2.2.2.2.2.2.2.2.2.2.2.2.2.2.2.2.2.2.2.2.1 h rfl hi hL (by constructor <;> omega) (fun N2 S2 X2 h2 => next N2 S2 X2 0 0 (by omega) (by omega) h2)
        | 26, _, c2 =>
          have c3 : w = 26 := gp_eqi (c2.trans (by decide : (0 : Int) + ((26 : Nat) : Int) = 26)) (by decide)
          refine ev_tableIn (pc := 33) (off := 1059) (tgt := 1092) d_lw_law_33 (by rw [c3]; decide) (by rw [c3]; decide) (by rw [c3]; decide) (by decide) ?_
          exact lc_plan hp.2.2.2.2.2.2.2.2.2.2.2.2.2.2.2.2.2.2.2.2.2.2.2.2.2.2.1 h rfl hi hL (by constructor <;> omega) (fun N2 S2 X2 h2 => next N2 S2 X2 0 0 (by omega) (by omega) h2)
        | 27, _, c2 =>
          have c3 : w = 27 := gp_eqi (c2.trans (by decide : (0 : Int) + ((27 : Nat) : Int) = 27)) (by decide)
          refine ev_tableIn (pc := 33) (off := 1082) (tgt := 1115) d_lw_law_33 (by rw [c3]; decide) (by rw [c3]; decide) (by rw [c3]; decide) (by decide) ?_
          exact lc_unplan hp.2.2.2.2.2.2.2.2.2.2.2.2.2.2.2.2.2.2.2.2.2.2.2.2.2.2.2.1 h rfl hi hL (by constructor <;> omega) (fun N2 S2 X2 h2 => next N2 S2 X2 0 0 (by omega) (by omega) h2)
        | 28, _, c2 =>
          have c3 : w = 28 := gp_eqi (c2.trans (by decide : (0 : Int) + ((28 : Nat) : Int) = 28)) (by decide)
          refine ev_tableIn (pc := 33) (off := 1095) (tgt := 1128) d_lw_law_33 (by rw [c3]; decide) (by rw [c3]; decide) (by rw [c3]; decide) (by decide) ?_
          exact lc_shortOf hp.2.2.2.2.2.2.2.2.2.2.2.2.2.2.2.2.2.2.2.2.2.2.2.2.2.2.2.2.1 h rfl hi hL (by constructor <;> omega) (fun N2 S2 X2 h2 => next N2 S2 X2 0 0 (by omega) (by omega) h2)
        | 29, _, c2 =>
          have c3 : w = 29 := gp_eqi (c2.trans (by decide : (0 : Int) + ((29 : Nat) : Int) = 29)) (by decide)
          refine ev_tableIn (pc := 33) (off := 1128) (tgt := 1161) d_lw_law_33 (by rw [c3]; decide) (by rw [c3]; decide) (by rw [c3]; decide) (by decide) ?_
          exact lc_fitter hp.2.2.2.2.2.2.2.2.2.2.2.2.2.2.2.2.2.2.2.2.2.2.2.2.2.2.2.2.2.1 h rfl hi hL (by constructor <;> omega) (fun N2 S2 X2 h2 => next N2 S2 X2 0 0 (by omega) (by omega) h2)
        | 30, _, c2 =>
          have c3 : w = 30 := gp_eqi (c2.trans (by decide : (0 : Int) + ((30 : Nat) : Int) = 30)) (by decide)
          refine ev_tableIn (pc := 33) (off := 1171) (tgt := 1204) d_lw_law_33 (by rw [c3]; decide) (by rw [c3]; decide) (by rw [c3]; decide) (by decide) ?_
          exact lc_change hp.2.2.2.2.2.2.2.2.2.2.2.2.2.2.2.2.2.2.2.2.2.2.2.2.2.2.2.2.2.2.1 h rfl hi hL (by constructor <;> omega) (fun N2 S2 X2 h2 => next N2 S2 X2 0 0 (by omega) (by omega) h2)
        | 31, _, c2 =>
          have c3 : w = 31 := gp_eqi (c2.trans (by decide : (0 : Int) + ((31 : Nat) : Int) = 31)) (by decide)
          refine ev_tableIn (pc := 33) (off := 1194) (tgt := 1227) d_lw_law_33 (by rw [c3]; decide) (by rw [c3]; decide) (by rw [c3]; decide) (by decide) ?_
          exact lc_week hp.2.2.2.2.2.2.2.2.2.2.2.2.2.2.2.2.2.2.2.2.2.2.2.2.2.2.2.2.2.2.2.1 h rfl hi hL (by constructor <;> omega) (fun N2 S2 X2 h2 => next N2 S2 X2 0 0 (by omega) (by omega) h2)
        | 32, _, c2 =>
          have c3 : w = 32 := gp_eqi (c2.trans (by decide : (0 : Int) + ((32 : Nat) : Int) = 32)) (by decide)
          refine ev_tableIn (pc := 33) (off := 1207) (tgt := 1240) d_lw_law_33 (by rw [c3]; decide) (by rw [c3]; decide) (by rw [c3]; decide) (by decide) ?_
          exact lc_later hp.2.2.2.2.2.2.2.2.2.2.2.2.2.2.2.2.2.2.2.2.2.2.2.2.2.2.2.2.2.2.2.2.1 h rfl hi hL (by constructor <;> omega) (fun N2 S2 X2 h2 => next N2 S2 X2 0 0 (by omega) (by omega) h2)
        | 33, _, c2 =>
          have c3 : w = 33 := gp_eqi (c2.trans (by decide : (0 : Int) + ((33 : Nat) : Int) = 33)) (by decide)
          refine ev_tableIn (pc := 33) (off := 1240) (tgt := 1273) d_lw_law_33 (by rw [c3]; decide) (by rw [c3]; decide) (by rw [c3]; decide) (by decide) ?_
          exact lc_danger hp.2.2.2.2.2.2.2.2.2.2.2.2.2.2.2.2.2.2.2.2.2.2.2.2.2.2.2.2.2.2.2.2.2.1 h rfl hi hL (by constructor <;> omega) (fun N2 S2 X2 h2 => next N2 S2 X2 0 0 (by omega) (by omega) h2)
        | 34, _, c2 =>
          have c3 : w = 34 := gp_eqi (c2.trans (by decide : (0 : Int) + ((34 : Nat) : Int) = 34)) (by decide)
          refine ev_tableIn (pc := 33) (off := 1253) (tgt := 1286) d_lw_law_33 (by rw [c3]; decide) (by rw [c3]; decide) (by rw [c3]; decide) (by decide) ?_
          exact lc_smell hp.2.2.2.2.2.2.2.2.2.2.2.2.2.2.2.2.2.2.2.2.2.2.2.2.2.2.2.2.2.2.2.2.2.2.1 h rfl hi hL (by constructor <;> omega) (fun N2 S2 X2 h2 => next N2 S2 X2 0 0 (by omega) (by omega) h2)
        | 35, _, c2 =>
          have c3 : w = 35 := gp_eqi (c2.trans (by decide : (0 : Int) + ((35 : Nat) : Int) = 35)) (by decide)
          refine ev_tableIn (pc := 33) (off := 1286) (tgt := 1319) d_lw_law_33 (by rw [c3]; decide) (by rw [c3]; decide) (by rw [c3]; decide) (by decide) ?_
          exact lc_smellOf hp.2.2.2.2.2.2.2.2.2.2.2.2.2.2.2.2.2.2.2.2.2.2.2.2.2.2.2.2.2.2.2.2.2.2.2.1 h rfl hi hL (by constructor <;> omega) (fun N2 S2 X2 h2 => next N2 S2 X2 0 0 (by omega) (by omega) h2)
        | 36, _, c2 =>
          have c3 : w = 36 := gp_eqi (c2.trans (by decide : (0 : Int) + ((36 : Nat) : Int) = 36)) (by decide)
          refine ev_tableIn (pc := 33) (off := 1319) (tgt := 1352) d_lw_law_33 (by rw [c3]; decide) (by rw [c3]; decide) (by rw [c3]; decide) (by decide) ?_
          exact lc_limit hp.2.2.2.2.2.2.2.2.2.2.2.2.2.2.2.2.2.2.2.2.2.2.2.2.2.2.2.2.2.2.2.2.2.2.2.2.1 h rfl hi hL (by constructor <;> omega) (fun N2 S2 X2 h2 => next N2 S2 X2 0 0 (by omega) (by omega) h2)
        | 37, _, c2 =>
          have c3 : w = 37 := gp_eqi (c2.trans (by decide : (0 : Int) + ((37 : Nat) : Int) = 37)) (by decide)
          refine ev_tableIn (pc := 33) (off := 1342) (tgt := 1375) d_lw_law_33 (by rw [c3]; decide) (by rw [c3]; decide) (by rw [c3]; decide) (by decide) ?_
          exact lc_fault hp.2.2.2.2.2.2.2.2.2.2.2.2.2.2.2.2.2.2.2.2.2.2.2.2.2.2.2.2.2.2.2.2.2.2.2.2.2.1 h rfl hi hL (by constructor <;> omega) (fun N2 S2 X2 h2 => next N2 S2 X2 0 0 (by omega) (by omega) h2)
        | 38, _, c2 =>
          have c3 : w = 38 := gp_eqi (c2.trans (by decide : (0 : Int) + ((38 : Nat) : Int) = 38)) (by decide)
          refine ev_tableIn (pc := 33) (off := 1365) (tgt := 1398) d_lw_law_33 (by rw [c3]; decide) (by rw [c3]; decide) (by rw [c3]; decide) (by decide) ?_
          exact lc_beyond hp.2.2.2.2.2.2.2.2.2.2.2.2.2.2.2.2.2.2.2.2.2.2.2.2.2.2.2.2.2.2.2.2.2.2.2.2.2.2.1 h rfl hi hL (by constructor <;> omega) (fun N2 S2 X2 h2 => next N2 S2 X2 0 0 (by omega) (by omega) h2)
        | 39, _, c2 =>
          have c3 : w = 39 := gp_eqi (c2.trans (by decide : (0 : Int) + ((39 : Nat) : Int) = 39)) (by decide)
          refine ev_tableIn (pc := 33) (off := 1398) (tgt := 1431) d_lw_law_33 (by rw [c3]; decide) (by rw [c3]; decide) (by rw [c3]; decide) (by decide) ?_
          exact lc_feed hp.2.2.2.2.2.2.2.2.2.2.2.2.2.2.2.2.2.2.2.2.2.2.2.2.2.2.2.2.2.2.2.2.2.2.2.2.2.2.2.1 h rfl hi hL (by constructor <;> omega) (fun N2 S2 X2 h2 => next N2 S2 X2 0 0 (by omega) (by omega) h2)
        | 40, _, c2 =>
          have c3 : w = 40 := gp_eqi (c2.trans (by decide : (0 : Int) + ((40 : Nat) : Int) = 40)) (by decide)
          refine ev_tableIn (pc := 33) (off := 1431) (tgt := 1464) d_lw_law_33 (by rw [c3]; decide) (by rw [c3]; decide) (by rw [c3]; decide) (by decide) ?_
          exact lc_law hp.2.2.2.2.2.2.2.2.2.2.2.2.2.2.2.2.2.2.2.2.2.2.2.2.2.2.2.2.2.2.2.2.2.2.2.2.2.2.2.2.1 h rfl hi hL (by constructor <;> omega) (fun N2 S2 X2 h2 => next N2 S2 X2 0 0 (by omega) (by omega) h2)
        | 41, _, c2 =>
          have c3 : w = 41 := gp_eqi (c2.trans (by decide : (0 : Int) + ((41 : Nat) : Int) = 41)) (by decide)
          refine ev_tableIn (pc := 33) (off := 1444) (tgt := 1477) d_lw_law_33 (by rw [c3]; decide) (by rw [c3]; decide) (by rw [c3]; decide) (by decide) ?_
          exact lc_bill hp.2.2.2.2.2.2.2.2.2.2.2.2.2.2.2.2.2.2.2.2.2.2.2.2.2.2.2.2.2.2.2.2.2.2.2.2.2.2.2.2.2.1 h rfl hi hL (by constructor <;> omega) (fun N2 S2 X2 h2 => next N2 S2 X2 0 0 (by omega) (by omega) h2)
        | 42, _, c2 =>
          have c3 : w = 42 := gp_eqi (c2.trans (by decide : (0 : Int) + ((42 : Nat) : Int) = 42)) (by decide)
          refine ev_tableIn (pc := 33) (off := 1467) (tgt := 1500) d_lw_law_33 (by rw [c3]; decide) (by rw [c3]; decide) (by rw [c3]; decide) (by decide) ?_
          exact lc_act hp.2.2.2.2.2.2.2.2.2.2.2.2.2.2.2.2.2.2.2.2.2.2.2.2.2.2.2.2.2.2.2.2.2.2.2.2.2.2.2.2.2.2.1 h rfl hi hL (by constructor <;> omega) (fun N2 S2 X2 h2 => next N2 S2 X2 0 0 (by omega) (by omega) h2)
        | 43, _, c2 =>
          have c3 : w = 43 := gp_eqi (c2.trans (by decide : (0 : Int) + ((43 : Nat) : Int) = 43)) (by decide)
          refine ev_tableIn (pc := 33) (off := 1510) (tgt := 1543) d_lw_law_33 (by rw [c3]; decide) (by rw [c3]; decide) (by rw [c3]; decide) (by decide) ?_
          exact lc_trace hp.2.2.2.2.2.2.2.2.2.2.2.2.2.2.2.2.2.2.2.2.2.2.2.2.2.2.2.2.2.2.2.2.2.2.2.2.2.2.2.2.2.2.2.1 h rfl hi hL (by constructor <;> omega) (fun N2 S2 X2 h2 => next N2 S2 X2 0 0 (by omega) (by omega) h2)
        | 44, _, c2 =>
          have c3 : w = 44 := gp_eqi (c2.trans (by decide : (0 : Int) + ((44 : Nat) : Int) = 44)) (by decide)
          refine ev_tableIn (pc := 33) (off := 1533) (tgt := 1566) d_lw_law_33 (by rw [c3]; decide) (by rw [c3]; decide) (by rw [c3]; decide) (by decide) ?_
          exact lc_taken hp.2.2.2.2.2.2.2.2.2.2.2.2.2.2.2.2.2.2.2.2.2.2.2.2.2.2.2.2.2.2.2.2.2.2.2.2.2.2.2.2.2.2.2.2.1 h rfl hi hL (by constructor <;> omega) (fun N2 S2 X2 h2 => next N2 S2 X2 0 0 (by omega) (by omega) h2)
        | 45, _, c2 =>
          have c3 : w = 45 := gp_eqi (c2.trans (by decide : (0 : Int) + ((45 : Nat) : Int) = 45)) (by decide)
          refine ev_tableIn (pc := 33) (off := 1566) (tgt := 1599) d_lw_law_33 (by rw [c3]; decide) (by rw [c3]; decide) (by rw [c3]; decide) (by decide) ?_
          exact lc_count hp.2.2.2.2.2.2.2.2.2.2.2.2.2.2.2.2.2.2.2.2.2.2.2.2.2.2.2.2.2.2.2.2.2.2.2.2.2.2.2.2.2.2.2.2.2.1 h rfl hi hL (by constructor <;> omega) (fun N2 S2 X2 h2 => next N2 S2 X2 0 0 (by omega) (by omega) h2)
        | 46, _, c2 =>
          have c3 : w = 46 := gp_eqi (c2.trans (by decide : (0 : Int) + ((46 : Nat) : Int) = 46)) (by decide)
          refine ev_tableIn (pc := 33) (off := 1589) (tgt := 1622) d_lw_law_33 (by rw [c3]; decide) (by rw [c3]; decide) (by rw [c3]; decide) (by decide) ?_
          exact lc_sheet hp.2.2.2.2.2.2.2.2.2.2.2.2.2.2.2.2.2.2.2.2.2.2.2.2.2.2.2.2.2.2.2.2.2.2.2.2.2.2.2.2.2.2.2.2.2.2.1 h rfl hi hL (by constructor <;> omega) (fun N2 S2 X2 h2 => next N2 S2 X2 0 0 (by omega) (by omega) h2)
        | 47, _, c2 =>
          have c3 : w = 47 := gp_eqi (c2.trans (by decide : (0 : Int) + ((47 : Nat) : Int) = 47)) (by decide)
          refine ev_tableIn (pc := 33) (off := 1632) (tgt := 1665) d_lw_law_33 (by rw [c3]; decide) (by rw [c3]; decide) (by rw [c3]; decide) (by decide) ?_
          exact lc_cell hp.2.2.2.2.2.2.2.2.2.2.2.2.2.2.2.2.2.2.2.2.2.2.2.2.2.2.2.2.2.2.2.2.2.2.2.2.2.2.2.2.2.2.2.2.2.2.2.1 h rfl hi hL (by constructor <;> omega) (fun N2 S2 X2 h2 => next N2 S2 X2 0 0 (by omega) (by omega) h2)
        | 48, _, c2 =>
          have c3 : w = 48 := gp_eqi (c2.trans (by decide : (0 : Int) + ((48 : Nat) : Int) = 48)) (by decide)
          refine ev_tableIn (pc := 33) (off := 1675) (tgt := 1708) d_lw_law_33 (by rw [c3]; decide) (by rw [c3]; decide) (by rw [c3]; decide) (by decide) ?_
          exact lc_copy hp.2.2.2.2.2.2.2.2.2.2.2.2.2.2.2.2.2.2.2.2.2.2.2.2.2.2.2.2.2.2.2.2.2.2.2.2.2.2.2.2.2.2.2.2.2.2.2.2 h rfl hi hL (by constructor <;> omega) (fun N2 S2 X2 h2 => next N2 S2 X2 0 0 (by omega) (by omega) h2)
        | j + 49, hj, _ => exact absurd hj (by omega)
