/-- cells that are objects: their slots are told one by one -/
def isO (a : Nat) : Bool := a == 0 || a == 1 || a == 13 || a == 23 || a == 31 || a == 40 || a == 48 || a == 55
def rw_net : List Nat := [2, 3, 4, 5, 56, 57, 58, 59, 6, 7]
def sl_net : List (Nat × Nat) := [(1, 0), (55, 0), (1, 1), (55, 1), (1, 8), (55, 11)]
theorem rwf_net : ∀ r, r ∈ rw_net → r < 114 ∧ isO r = false ∧ ∀ k, fr 1 r k = false := by
  intro r hr
  simp only [rw_net, List.mem_cons, List.not_mem_nil, or_false] at hr
  rcases hr with rfl | rfl | rfl | rfl | rfl | rfl | rfl | rfl | rfl | rfl
  all_goals exact ⟨by decide, rfl, fun _ => rfl⟩
theorem slf_net : ∀ q, q ∈ sl_net → q.1 < 114 ∧ fr 1 q.1 q.2 = false := by decide
def rw_wrk : List Nat := [8, 9, 10, 11, 60, 61, 62, 63]
def sl_wrk : List (Nat × Nat) := [(1, 9), (55, 6)]
theorem rwf_wrk : ∀ r, r ∈ rw_wrk → r < 114 ∧ isO r = false ∧ ∀ k, fr 2 r k = false := by
  intro r hr
  simp only [rw_wrk, List.mem_cons, List.not_mem_nil, or_false] at hr
  rcases hr with rfl | rfl | rfl | rfl | rfl | rfl | rfl | rfl
  all_goals exact ⟨by decide, rfl, fun _ => rfl⟩
theorem slf_wrk : ∀ q, q ∈ sl_wrk → q.1 < 114 ∧ fr 2 q.1 q.2 = false := by decide
def rw_stp : List Nat := [12, 64]
def sl_stp : List (Nat × Nat) := []
theorem rwf_stp : ∀ r, r ∈ rw_stp → r < 114 ∧ isO r = false ∧ ∀ k, fr 3 r k = false := by
  intro r hr
  simp only [rw_stp, List.mem_cons, List.not_mem_nil, or_false] at hr
  rcases hr with rfl | rfl
  all_goals exact ⟨by decide, rfl, fun _ => rfl⟩
theorem slf_stp : ∀ q, q ∈ sl_stp → q.1 < 114 ∧ fr 3 q.1 q.2 = false := by decide
def rw_mod : List Nat := [65, 66, 67, 68, 69]
def sl_mod : List (Nat × Nat) := [(0, 4), (55, 13)]
theorem rwf_mod : ∀ r, r ∈ rw_mod → r < 114 ∧ isO r = false ∧ ∀ k, fr 4 r k = false := by
  intro r hr
  simp only [rw_mod, List.mem_cons, List.not_mem_nil, or_false] at hr
  rcases hr with rfl | rfl | rfl | rfl | rfl
  all_goals exact ⟨by decide, rfl, fun _ => rfl⟩
theorem slf_mod : ∀ q, q ∈ sl_mod → q.1 < 114 ∧ fr 4 q.1 q.2 = false := by decide
def rw_hom : List Nat := [70, 71, 72, 73, 74, 75, 76, 77, 78]
def sl_hom : List (Nat × Nat) := [(0, 6), (55, 19)]
theorem rwf_hom : ∀ r, r ∈ rw_hom → r < 114 ∧ isO r = false ∧ ∀ k, fr 5 r k = false := by
  intro r hr
  simp only [rw_hom, List.mem_cons, List.not_mem_nil, or_false] at hr
  rcases hr with rfl | rfl | rfl | rfl | rfl | rfl | rfl | rfl | rfl
  all_goals exact ⟨by decide, rfl, fun _ => rfl⟩
theorem slf_hom : ∀ q, q ∈ sl_hom → q.1 < 114 ∧ fr 5 q.1 q.2 = false := by decide
def rw_flt : List Nat := [78]
def sl_flt : List (Nat × Nat) := [(55, 56)]
theorem rwf_flt : ∀ r, r ∈ rw_flt → r < 114 ∧ isO r = false ∧ ∀ k, fr 6 r k = false := by
  intro r hr
  obtain rfl := List.mem_singleton.mp hr
  exact ⟨by decide, rfl, fun _ => rfl⟩
theorem slf_flt : ∀ q, q ∈ sl_flt → q.1 < 114 ∧ fr 6 q.1 q.2 = false := by decide
def rw_sur : List Nat := [17, 18, 79, 80]
def sl_sur : List (Nat × Nat) := [(0, 9), (55, 29)]
theorem rwf_sur : ∀ r, r ∈ rw_sur → r < 114 ∧ isO r = false ∧ ∀ k, fr 7 r k = false := by
  intro r hr
  simp only [rw_sur, List.mem_cons, List.not_mem_nil, or_false] at hr
  rcases hr with rfl | rfl | rfl | rfl
  all_goals exact ⟨by decide, rfl, fun _ => rfl⟩
theorem slf_sur : ∀ q, q ∈ sl_sur → q.1 < 114 ∧ fr 7 q.1 q.2 = false := by decide
def rw_stk : List Nat := [19, 81]
def sl_stk : List (Nat × Nat) := []
theorem rwf_stk : ∀ r, r ∈ rw_stk → r < 114 ∧ isO r = false ∧ ∀ k, fr 8 r k = false := by
  intro r hr
  simp only [rw_stk, List.mem_cons, List.not_mem_nil, or_false] at hr
  rcases hr with rfl | rfl
  all_goals exact ⟨by decide, rfl, fun _ => rfl⟩
theorem slf_stk : ∀ q, q ∈ sl_stk → q.1 < 114 ∧ fr 8 q.1 q.2 = false := by decide
def rw_ord : List Nat := [20, 21, 22, 82, 83, 84]
def sl_ord : List (Nat × Nat) := [(0, 14), (55, 33)]
theorem rwf_ord : ∀ r, r ∈ rw_ord → r < 114 ∧ isO r = false ∧ ∀ k, fr 9 r k = false := by
  intro r hr
  simp only [rw_ord, List.mem_cons, List.not_mem_nil, or_false] at hr
  rcases hr with rfl | rfl | rfl | rfl | rfl | rfl
  all_goals exact ⟨by decide, rfl, fun _ => rfl⟩
theorem slf_ord : ∀ q, q ∈ sl_ord → q.1 < 114 ∧ fr 9 q.1 q.2 = false := by decide
def rw_sec : List Nat := [24, 85, 86]
def sl_sec : List (Nat × Nat) := [(23, 1), (55, 37), (23, 3)]
theorem rwf_sec : ∀ r, r ∈ rw_sec → r < 114 ∧ isO r = false ∧ ∀ k, fr 10 r k = false := by
  intro r hr
  simp only [rw_sec, List.mem_cons, List.not_mem_nil, or_false] at hr
  rcases hr with rfl | rfl | rfl
  all_goals exact ⟨by decide, rfl, fun _ => rfl⟩
theorem slf_sec : ∀ q, q ∈ sl_sec → q.1 < 114 ∧ fr 10 q.1 q.2 = false := by decide
def rw_pln : List Nat := [25, 87, 86]
def sl_pln : List (Nat × Nat) := [(23, 4), (55, 40)]
theorem rwf_pln : ∀ r, r ∈ rw_pln → r < 114 ∧ isO r = false ∧ ∀ k, fr 11 r k = false := by
  intro r hr
  simp only [rw_pln, List.mem_cons, List.not_mem_nil, or_false] at hr
  rcases hr with rfl | rfl | rfl
  all_goals exact ⟨by decide, rfl, fun _ => rfl⟩
theorem slf_pln : ∀ q, q ∈ sl_pln → q.1 < 114 ∧ fr 11 q.1 q.2 = false := by decide
def rw_row : List Nat := [26, 88]
def sl_row : List (Nat × Nat) := [(23, 6), (55, 42)]
theorem rwf_row : ∀ r, r ∈ rw_row → r < 114 ∧ isO r = false ∧ ∀ k, fr 12 r k = false := by
  intro r hr
  simp only [rw_row, List.mem_cons, List.not_mem_nil, or_false] at hr
  rcases hr with rfl | rfl
  all_goals exact ⟨by decide, rfl, fun _ => rfl⟩
theorem slf_row : ∀ q, q ∈ sl_row → q.1 < 114 ∧ fr 12 q.1 q.2 = false := by decide
def rw_wek : List Nat := []
def sl_wek : List (Nat × Nat) := [(0, 16), (55, 44)]
theorem rwf_wek : ∀ r, r ∈ rw_wek → r < 114 ∧ isO r = false ∧ ∀ k, fr 13 r k = false := fun r hr => by cases hr
theorem slf_wek : ∀ q, q ∈ sl_wek → q.1 < 114 ∧ fr 13 q.1 q.2 = false := by decide
def rw_fit : List Nat := [32, 33, 34, 35, 89, 90, 91, 92]
def sl_fit : List (Nat × Nat) := [(31, 0), (55, 45)]
theorem rwf_fit : ∀ r, r ∈ rw_fit → r < 114 ∧ isO r = false ∧ ∀ k, fr 14 r k = false := by
  intro r hr
  simp only [rw_fit, List.mem_cons, List.not_mem_nil, or_false] at hr
  rcases hr with rfl | rfl | rfl | rfl | rfl | rfl | rfl | rfl
  all_goals exact ⟨by decide, rfl, fun _ => rfl⟩
theorem slf_fit : ∀ q, q ∈ sl_fit → q.1 < 114 ∧ fr 14 q.1 q.2 = false := by decide
def rw_sml : List Nat := [36, 37, 38, 39, 93, 94, 95, 96]
def sl_sml : List (Nat × Nat) := [(31, 5), (55, 50)]
theorem rwf_sml : ∀ r, r ∈ rw_sml → r < 114 ∧ isO r = false ∧ ∀ k, fr 15 r k = false := by
  intro r hr
  simp only [rw_sml, List.mem_cons, List.not_mem_nil, or_false] at hr
  rcases hr with rfl | rfl | rfl | rfl | rfl | rfl | rfl | rfl
  all_goals exact ⟨by decide, rfl, fun _ => rfl⟩
theorem slf_sml : ∀ q, q ∈ sl_sml → q.1 < 114 ∧ fr 15 q.1 q.2 = false := by decide
def rw_lim : List Nat := []
def sl_lim : List (Nat × Nat) := [(31, 10), (55, 55)]
theorem rwf_lim : ∀ r, r ∈ rw_lim → r < 114 ∧ isO r = false ∧ ∀ k, fr 16 r k = false := fun r hr => by cases hr
theorem slf_lim : ∀ q, q ∈ sl_lim → q.1 < 114 ∧ fr 16 q.1 q.2 = false := by decide
def rw_law : List Nat := [42, 43, 44, 45, 46, 97, 98, 99, 100, 101]
def sl_law : List (Nat × Nat) := [(40, 2), (55, 57)]
theorem rwf_law : ∀ r, r ∈ rw_law → r < 114 ∧ isO r = false ∧ ∀ k, fr 17 r k = false := by
  intro r hr
  simp only [rw_law, List.mem_cons, List.not_mem_nil, or_false] at hr
  rcases hr with rfl | rfl | rfl | rfl | rfl | rfl | rfl | rfl | rfl | rfl
  all_goals exact ⟨by decide, rfl, fun _ => rfl⟩
theorem slf_law : ∀ q, q ∈ sl_law → q.1 < 114 ∧ fr 17 q.1 q.2 = false := by decide
def rw_tap : List Nat := [41, 102]
def sl_tap : List (Nat × Nat) := [(40, 0), (55, 64)]
theorem rwf_tap : ∀ r, r ∈ rw_tap → r < 114 ∧ isO r = false ∧ ∀ k, fr 18 r k = false := by
  intro r hr
  simp only [rw_tap, List.mem_cons, List.not_mem_nil, or_false] at hr
  rcases hr with rfl | rfl
  all_goals exact ⟨by decide, rfl, fun _ => rfl⟩
theorem slf_tap : ∀ q, q ∈ sl_tap → q.1 < 114 ∧ fr 18 q.1 q.2 = false := by decide
def rw_trc : List Nat := [14, 103]
def sl_trc : List (Nat × Nat) := [(13, 1), (55, 65)]
theorem rwf_trc : ∀ r, r ∈ rw_trc → r < 114 ∧ isO r = false ∧ ∀ k, fr 19 r k = false := by
  intro r hr
  simp only [rw_trc, List.mem_cons, List.not_mem_nil, or_false] at hr
  rcases hr with rfl | rfl
  all_goals exact ⟨by decide, rfl, fun _ => rfl⟩
theorem slf_trc : ∀ q, q ∈ sl_trc → q.1 < 114 ∧ fr 19 q.1 q.2 = false := by decide
def rw_she : List Nat := [49, 50, 51, 52, 53, 54, 104, 105, 106]
def sl_she : List (Nat × Nat) := []
theorem rwf_she : ∀ r, r ∈ rw_she → r < 114 ∧ isO r = false ∧ ∀ k, fr 20 r k = false := by
  intro r hr
  simp only [rw_she, List.mem_cons, List.not_mem_nil, or_false] at hr
  rcases hr with rfl | rfl | rfl | rfl | rfl | rfl | rfl | rfl | rfl
  all_goals exact ⟨by decide, rfl, fun _ => rfl⟩
theorem slf_she : ∀ q, q ∈ sl_she → q.1 < 114 ∧ fr 20 q.1 q.2 = false := by decide
def rw_txt : List Nat := [110, 111]
def sl_txt : List (Nat × Nat) := []
theorem rwf_txt : ∀ r, r ∈ rw_txt → r < 114 ∧ isO r = false ∧ ∀ k, fr 21 r k = false := by
  intro r hr
  simp only [rw_txt, List.mem_cons, List.not_mem_nil, or_false] at hr
  rcases hr with rfl | rfl
  all_goals exact ⟨by decide, rfl, fun _ => rfl⟩
theorem slf_txt : ∀ q, q ∈ sl_txt → q.1 < 114 ∧ fr 21 q.1 q.2 = false := by decide
theorem I_net_w {N : Nat → Nat} {X : gp_H} {f : Nat → Nat → Int32} (hr : ∀ r, r ∈ rw_net → ∀ k, f r k = gI X r k) (hs : ∀ q, q ∈ sl_net → f q.1 q.2 = gI X q.1 q.2) (h : I_net N X) : I_net N (gp_wI X f) := by
  have r2 : gI (gp_wI X f) 2 = gI X 2 := funext (hr 2 (by decide))
  have p2 : ∀ j, gI (gp_wI X f) 2 j = gI X 2 j := hr 2 (by decide)
  have r3 : gI (gp_wI X f) 3 = gI X 3 := funext (hr 3 (by decide))
  have p3 : ∀ j, gI (gp_wI X f) 3 j = gI X 3 j := hr 3 (by decide)
  have r4 : gI (gp_wI X f) 4 = gI X 4 := funext (hr 4 (by decide))
  have p4 : ∀ j, gI (gp_wI X f) 4 j = gI X 4 j := hr 4 (by decide)
  have r5 : gI (gp_wI X f) 5 = gI X 5 := funext (hr 5 (by decide))
  have p5 : ∀ j, gI (gp_wI X f) 5 j = gI X 5 j := hr 5 (by decide)
  have r56 : gI (gp_wI X f) 56 = gI X 56 := funext (hr 56 (by decide))
  have p56 : ∀ j, gI (gp_wI X f) 56 j = gI X 56 j := hr 56 (by decide)
  have r57 : gI (gp_wI X f) 57 = gI X 57 := funext (hr 57 (by decide))
  have p57 : ∀ j, gI (gp_wI X f) 57 j = gI X 57 j := hr 57 (by decide)
  have r58 : gI (gp_wI X f) 58 = gI X 58 := funext (hr 58 (by decide))
  have p58 : ∀ j, gI (gp_wI X f) 58 j = gI X 58 j := hr 58 (by decide)
  have r59 : gI (gp_wI X f) 59 = gI X 59 := funext (hr 59 (by decide))
  have p59 : ∀ j, gI (gp_wI X f) 59 j = gI X 59 j := hr 59 (by decide)
  have r6 : gI (gp_wI X f) 6 = gI X 6 := funext (hr 6 (by decide))
  have p6 : ∀ j, gI (gp_wI X f) 6 j = gI X 6 j := hr 6 (by decide)
  have r7 : gI (gp_wI X f) 7 = gI X 7 := funext (hr 7 (by decide))
  have p7 : ∀ j, gI (gp_wI X f) 7 j = gI X 7 j := hr 7 (by decide)
  have s1_0 : gI (gp_wI X f) 1 0 = gI X 1 0 := hs (1, 0) (by decide)
  have s55_0 : gI (gp_wI X f) 55 0 = gI X 55 0 := hs (55, 0) (by decide)
  have s1_1 : gI (gp_wI X f) 1 1 = gI X 1 1 := hs (1, 1) (by decide)
  have s55_1 : gI (gp_wI X f) 55 1 = gI X 55 1 := hs (55, 1) (by decide)
  have s1_8 : gI (gp_wI X f) 1 8 = gI X 1 8 := hs (1, 8) (by decide)
  have s55_11 : gI (gp_wI X f) 55 11 = gI X 55 11 := hs (55, 11) (by decide)
  unfold I_net at h ⊢
  simp only [r2, p2, r3, p3, r4, p4, r5, p5, r56, p56, r57, p57, r58, p58, r59, p59, r6, p6, r7, p7, s1_0, s55_0, s1_1, s55_1, s1_8, s55_11]
  exact h
theorem I_wrk_w {N : Nat → Nat} {X : gp_H} {f : Nat → Nat → Int32} (hr : ∀ r, r ∈ rw_wrk → ∀ k, f r k = gI X r k) (hs : ∀ q, q ∈ sl_wrk → f q.1 q.2 = gI X q.1 q.2) (h : I_wrk N X) : I_wrk N (gp_wI X f) := by
  have r8 : gI (gp_wI X f) 8 = gI X 8 := funext (hr 8 (by decide))
  have p8 : ∀ j, gI (gp_wI X f) 8 j = gI X 8 j := hr 8 (by decide)
  have r9 : gI (gp_wI X f) 9 = gI X 9 := funext (hr 9 (by decide))
  have p9 : ∀ j, gI (gp_wI X f) 9 j = gI X 9 j := hr 9 (by decide)
  have r10 : gI (gp_wI X f) 10 = gI X 10 := funext (hr 10 (by decide))
  have p10 : ∀ j, gI (gp_wI X f) 10 j = gI X 10 j := hr 10 (by decide)
  have r11 : gI (gp_wI X f) 11 = gI X 11 := funext (hr 11 (by decide))
  have p11 : ∀ j, gI (gp_wI X f) 11 j = gI X 11 j := hr 11 (by decide)
  have r60 : gI (gp_wI X f) 60 = gI X 60 := funext (hr 60 (by decide))
  have p60 : ∀ j, gI (gp_wI X f) 60 j = gI X 60 j := hr 60 (by decide)
  have r61 : gI (gp_wI X f) 61 = gI X 61 := funext (hr 61 (by decide))
  have p61 : ∀ j, gI (gp_wI X f) 61 j = gI X 61 j := hr 61 (by decide)
  have r62 : gI (gp_wI X f) 62 = gI X 62 := funext (hr 62 (by decide))
  have p62 : ∀ j, gI (gp_wI X f) 62 j = gI X 62 j := hr 62 (by decide)
  have r63 : gI (gp_wI X f) 63 = gI X 63 := funext (hr 63 (by decide))
  have p63 : ∀ j, gI (gp_wI X f) 63 j = gI X 63 j := hr 63 (by decide)
  have s1_9 : gI (gp_wI X f) 1 9 = gI X 1 9 := hs (1, 9) (by decide)
  have s55_6 : gI (gp_wI X f) 55 6 = gI X 55 6 := hs (55, 6) (by decide)
  unfold I_wrk at h ⊢
  simp only [r8, p8, r9, p9, r10, p10, r11, p11, r60, p60, r61, p61, r62, p62, r63, p63, s1_9, s55_6]
  exact h
theorem I_stp_w {X : gp_H} {f : Nat → Nat → Int32} (hr : ∀ r, r ∈ rw_stp → ∀ k, f r k = gI X r k) (hs : ∀ q, q ∈ sl_stp → f q.1 q.2 = gI X q.1 q.2) (h : I_stp X) : I_stp (gp_wI X f) := by
  have r12 : gI (gp_wI X f) 12 = gI X 12 := funext (hr 12 (by decide))
  have p12 : ∀ j, gI (gp_wI X f) 12 j = gI X 12 j := hr 12 (by decide)
  have r64 : gI (gp_wI X f) 64 = gI X 64 := funext (hr 64 (by decide))
  have p64 : ∀ j, gI (gp_wI X f) 64 j = gI X 64 j := hr 64 (by decide)
  unfold I_stp at h ⊢
  simp only [r12, p12, r64, p64]
  exact h
theorem I_flt_w {S : gp_S} {X : gp_H} {f : Nat → Nat → Int32} (hr : ∀ r, r ∈ rw_flt → ∀ k, f r k = gI X r k) (hs : ∀ q, q ∈ sl_flt → f q.1 q.2 = gI X q.1 q.2) (h : I_flt S X) : I_flt S (gp_wI X f) := by
  have r78 : gI (gp_wI X f) 78 = gI X 78 := funext (hr 78 (by decide))
  have p78 : ∀ j, gI (gp_wI X f) 78 j = gI X 78 j := hr 78 (by decide)
  have s55_56 : gI (gp_wI X f) 55 56 = gI X 55 56 := hs (55, 56) (by decide)
  unfold I_flt at h ⊢
  simp only [r78, p78, s55_56]
  exact h
theorem I_stk_w {X : gp_H} {f : Nat → Nat → Int32} (hr : ∀ r, r ∈ rw_stk → ∀ k, f r k = gI X r k) (hs : ∀ q, q ∈ sl_stk → f q.1 q.2 = gI X q.1 q.2) (h : I_stk X) : I_stk (gp_wI X f) := by
  have r19 : gI (gp_wI X f) 19 = gI X 19 := funext (hr 19 (by decide))
  have p19 : ∀ j, gI (gp_wI X f) 19 j = gI X 19 j := hr 19 (by decide)
  have r81 : gI (gp_wI X f) 81 = gI X 81 := funext (hr 81 (by decide))
  have p81 : ∀ j, gI (gp_wI X f) 81 j = gI X 81 j := hr 81 (by decide)
  unfold I_stk at h ⊢
  simp only [r19, p19, r81, p81]
  exact h
theorem I_ord_w {N : Nat → Nat} {X : gp_H} {f : Nat → Nat → Int32} (hr : ∀ r, r ∈ rw_ord → ∀ k, f r k = gI X r k) (hs : ∀ q, q ∈ sl_ord → f q.1 q.2 = gI X q.1 q.2) (h : I_ord N X) : I_ord N (gp_wI X f) := by
  have r20 : gI (gp_wI X f) 20 = gI X 20 := funext (hr 20 (by decide))
  have p20 : ∀ j, gI (gp_wI X f) 20 j = gI X 20 j := hr 20 (by decide)
  have r21 : gI (gp_wI X f) 21 = gI X 21 := funext (hr 21 (by decide))
  have p21 : ∀ j, gI (gp_wI X f) 21 j = gI X 21 j := hr 21 (by decide)
  have r22 : gI (gp_wI X f) 22 = gI X 22 := funext (hr 22 (by decide))
  have p22 : ∀ j, gI (gp_wI X f) 22 j = gI X 22 j := hr 22 (by decide)
  have r82 : gI (gp_wI X f) 82 = gI X 82 := funext (hr 82 (by decide))
  have p82 : ∀ j, gI (gp_wI X f) 82 j = gI X 82 j := hr 82 (by decide)
  have r83 : gI (gp_wI X f) 83 = gI X 83 := funext (hr 83 (by decide))
  have p83 : ∀ j, gI (gp_wI X f) 83 j = gI X 83 j := hr 83 (by decide)
  have r84 : gI (gp_wI X f) 84 = gI X 84 := funext (hr 84 (by decide))
  have p84 : ∀ j, gI (gp_wI X f) 84 j = gI X 84 j := hr 84 (by decide)
  have s0_14 : gI (gp_wI X f) 0 14 = gI X 0 14 := hs (0, 14) (by decide)
  have s55_33 : gI (gp_wI X f) 55 33 = gI X 55 33 := hs (55, 33) (by decide)
  unfold I_ord at h ⊢
  simp only [r20, p20, r21, p21, r22, p22, r82, p82, r83, p83, r84, p84, s0_14, s55_33]
  exact h
theorem I_sec_w {N : Nat → Nat} {X : gp_H} {f : Nat → Nat → Int32} (hr : ∀ r, r ∈ rw_sec → ∀ k, f r k = gI X r k) (hs : ∀ q, q ∈ sl_sec → f q.1 q.2 = gI X q.1 q.2) (h : I_sec N X) : I_sec N (gp_wI X f) := by
  have r24 : gI (gp_wI X f) 24 = gI X 24 := funext (hr 24 (by decide))
  have p24 : ∀ j, gI (gp_wI X f) 24 j = gI X 24 j := hr 24 (by decide)
  have r85 : gI (gp_wI X f) 85 = gI X 85 := funext (hr 85 (by decide))
  have p85 : ∀ j, gI (gp_wI X f) 85 j = gI X 85 j := hr 85 (by decide)
  have r86 : gI (gp_wI X f) 86 = gI X 86 := funext (hr 86 (by decide))
  have p86 : ∀ j, gI (gp_wI X f) 86 j = gI X 86 j := hr 86 (by decide)
  have s23_1 : gI (gp_wI X f) 23 1 = gI X 23 1 := hs (23, 1) (by decide)
  have s55_37 : gI (gp_wI X f) 55 37 = gI X 55 37 := hs (55, 37) (by decide)
  have s23_3 : gI (gp_wI X f) 23 3 = gI X 23 3 := hs (23, 3) (by decide)
  unfold I_sec at h ⊢
  simp only [r24, p24, r85, p85, r86, p86, s23_1, s55_37, s23_3]
  exact h
theorem I_pln_w {N : Nat → Nat} {X : gp_H} {f : Nat → Nat → Int32} (hr : ∀ r, r ∈ rw_pln → ∀ k, f r k = gI X r k) (hs : ∀ q, q ∈ sl_pln → f q.1 q.2 = gI X q.1 q.2) (h : I_pln N X) : I_pln N (gp_wI X f) := by
  have r25 : gI (gp_wI X f) 25 = gI X 25 := funext (hr 25 (by decide))
  have p25 : ∀ j, gI (gp_wI X f) 25 j = gI X 25 j := hr 25 (by decide)
  have r87 : gI (gp_wI X f) 87 = gI X 87 := funext (hr 87 (by decide))
  have p87 : ∀ j, gI (gp_wI X f) 87 j = gI X 87 j := hr 87 (by decide)
  have r86 : gI (gp_wI X f) 86 = gI X 86 := funext (hr 86 (by decide))
  have p86 : ∀ j, gI (gp_wI X f) 86 j = gI X 86 j := hr 86 (by decide)
  have s23_4 : gI (gp_wI X f) 23 4 = gI X 23 4 := hs (23, 4) (by decide)
  have s55_40 : gI (gp_wI X f) 55 40 = gI X 55 40 := hs (55, 40) (by decide)
  unfold I_pln at h ⊢
  simp only [r25, p25, r87, p87, r86, p86, s23_4, s55_40]
  exact h
theorem I_row_w {N : Nat → Nat} {X : gp_H} {f : Nat → Nat → Int32} (hr : ∀ r, r ∈ rw_row → ∀ k, f r k = gI X r k) (hs : ∀ q, q ∈ sl_row → f q.1 q.2 = gI X q.1 q.2) (h : I_row N X) : I_row N (gp_wI X f) := by
  have r26 : gI (gp_wI X f) 26 = gI X 26 := funext (hr 26 (by decide))
  have p26 : ∀ j, gI (gp_wI X f) 26 j = gI X 26 j := hr 26 (by decide)
  have r88 : gI (gp_wI X f) 88 = gI X 88 := funext (hr 88 (by decide))
  have p88 : ∀ j, gI (gp_wI X f) 88 j = gI X 88 j := hr 88 (by decide)
  have s23_6 : gI (gp_wI X f) 23 6 = gI X 23 6 := hs (23, 6) (by decide)
  have s55_42 : gI (gp_wI X f) 55 42 = gI X 55 42 := hs (55, 42) (by decide)
  unfold I_row at h ⊢
  simp only [r26, p26, r88, p88, s23_6, s55_42]
  exact h
theorem I_wek_w {N : Nat → Nat} {X : gp_H} {f : Nat → Nat → Int32} (hr : ∀ r, r ∈ rw_wek → ∀ k, f r k = gI X r k) (hs : ∀ q, q ∈ sl_wek → f q.1 q.2 = gI X q.1 q.2) (h : I_wek N X) : I_wek N (gp_wI X f) := by
  have s0_16 : gI (gp_wI X f) 0 16 = gI X 0 16 := hs (0, 16) (by decide)
  have s55_44 : gI (gp_wI X f) 55 44 = gI X 55 44 := hs (55, 44) (by decide)
  unfold I_wek at h ⊢
  simp only [s0_16, s55_44]
  exact h
theorem I_fit_w {N : Nat → Nat} {X : gp_H} {f : Nat → Nat → Int32} (hr : ∀ r, r ∈ rw_fit → ∀ k, f r k = gI X r k) (hs : ∀ q, q ∈ sl_fit → f q.1 q.2 = gI X q.1 q.2) (h : I_fit N X) : I_fit N (gp_wI X f) := by
  have r32 : gI (gp_wI X f) 32 = gI X 32 := funext (hr 32 (by decide))
  have p32 : ∀ j, gI (gp_wI X f) 32 j = gI X 32 j := hr 32 (by decide)
  have r33 : gI (gp_wI X f) 33 = gI X 33 := funext (hr 33 (by decide))
  have p33 : ∀ j, gI (gp_wI X f) 33 j = gI X 33 j := hr 33 (by decide)
  have r34 : gI (gp_wI X f) 34 = gI X 34 := funext (hr 34 (by decide))
  have p34 : ∀ j, gI (gp_wI X f) 34 j = gI X 34 j := hr 34 (by decide)
  have r35 : gI (gp_wI X f) 35 = gI X 35 := funext (hr 35 (by decide))
  have p35 : ∀ j, gI (gp_wI X f) 35 j = gI X 35 j := hr 35 (by decide)
  have r89 : gI (gp_wI X f) 89 = gI X 89 := funext (hr 89 (by decide))
  have p89 : ∀ j, gI (gp_wI X f) 89 j = gI X 89 j := hr 89 (by decide)
  have r90 : gI (gp_wI X f) 90 = gI X 90 := funext (hr 90 (by decide))
  have p90 : ∀ j, gI (gp_wI X f) 90 j = gI X 90 j := hr 90 (by decide)
  have r91 : gI (gp_wI X f) 91 = gI X 91 := funext (hr 91 (by decide))
  have p91 : ∀ j, gI (gp_wI X f) 91 j = gI X 91 j := hr 91 (by decide)
  have r92 : gI (gp_wI X f) 92 = gI X 92 := funext (hr 92 (by decide))
  have p92 : ∀ j, gI (gp_wI X f) 92 j = gI X 92 j := hr 92 (by decide)
  have s31_0 : gI (gp_wI X f) 31 0 = gI X 31 0 := hs (31, 0) (by decide)
  have s55_45 : gI (gp_wI X f) 55 45 = gI X 55 45 := hs (55, 45) (by decide)
  unfold I_fit at h ⊢
  simp only [r32, p32, r33, p33, r34, p34, r35, p35, r89, p89, r90, p90, r91, p91, r92, p92, s31_0, s55_45]
  exact h
theorem I_sml_w {N : Nat → Nat} {X : gp_H} {f : Nat → Nat → Int32} (hr : ∀ r, r ∈ rw_sml → ∀ k, f r k = gI X r k) (hs : ∀ q, q ∈ sl_sml → f q.1 q.2 = gI X q.1 q.2) (h : I_sml N X) : I_sml N (gp_wI X f) := by
  have r36 : gI (gp_wI X f) 36 = gI X 36 := funext (hr 36 (by decide))
  have p36 : ∀ j, gI (gp_wI X f) 36 j = gI X 36 j := hr 36 (by decide)
  have r37 : gI (gp_wI X f) 37 = gI X 37 := funext (hr 37 (by decide))
  have p37 : ∀ j, gI (gp_wI X f) 37 j = gI X 37 j := hr 37 (by decide)
  have r38 : gI (gp_wI X f) 38 = gI X 38 := funext (hr 38 (by decide))
  have p38 : ∀ j, gI (gp_wI X f) 38 j = gI X 38 j := hr 38 (by decide)
  have r39 : gI (gp_wI X f) 39 = gI X 39 := funext (hr 39 (by decide))
  have p39 : ∀ j, gI (gp_wI X f) 39 j = gI X 39 j := hr 39 (by decide)
  have r93 : gI (gp_wI X f) 93 = gI X 93 := funext (hr 93 (by decide))
  have p93 : ∀ j, gI (gp_wI X f) 93 j = gI X 93 j := hr 93 (by decide)
  have r94 : gI (gp_wI X f) 94 = gI X 94 := funext (hr 94 (by decide))
  have p94 : ∀ j, gI (gp_wI X f) 94 j = gI X 94 j := hr 94 (by decide)
  have r95 : gI (gp_wI X f) 95 = gI X 95 := funext (hr 95 (by decide))
  have p95 : ∀ j, gI (gp_wI X f) 95 j = gI X 95 j := hr 95 (by decide)
  have r96 : gI (gp_wI X f) 96 = gI X 96 := funext (hr 96 (by decide))
  have p96 : ∀ j, gI (gp_wI X f) 96 j = gI X 96 j := hr 96 (by decide)
  have s31_5 : gI (gp_wI X f) 31 5 = gI X 31 5 := hs (31, 5) (by decide)
  have s55_50 : gI (gp_wI X f) 55 50 = gI X 55 50 := hs (55, 50) (by decide)
  unfold I_sml at h ⊢
  simp only [r36, p36, r37, p37, r38, p38, r39, p39, r93, p93, r94, p94, r95, p95, r96, p96, s31_5, s55_50]
  exact h
theorem I_lim_w {X : gp_H} {f : Nat → Nat → Int32} (hr : ∀ r, r ∈ rw_lim → ∀ k, f r k = gI X r k) (hs : ∀ q, q ∈ sl_lim → f q.1 q.2 = gI X q.1 q.2) (h : I_lim X) : I_lim (gp_wI X f) := by
  have s31_10 : gI (gp_wI X f) 31 10 = gI X 31 10 := hs (31, 10) (by decide)
  have s55_55 : gI (gp_wI X f) 55 55 = gI X 55 55 := hs (55, 55) (by decide)
  unfold I_lim at h ⊢
  simp only [s31_10, s55_55]
  exact h
theorem I_law_w {N : Nat → Nat} {X : gp_H} {f : Nat → Nat → Int32} (hr : ∀ r, r ∈ rw_law → ∀ k, f r k = gI X r k) (hs : ∀ q, q ∈ sl_law → f q.1 q.2 = gI X q.1 q.2) (h : I_law N X) : I_law N (gp_wI X f) := by
  have r42 : gI (gp_wI X f) 42 = gI X 42 := funext (hr 42 (by decide))
  have p42 : ∀ j, gI (gp_wI X f) 42 j = gI X 42 j := hr 42 (by decide)
  have r43 : gI (gp_wI X f) 43 = gI X 43 := funext (hr 43 (by decide))
  have p43 : ∀ j, gI (gp_wI X f) 43 j = gI X 43 j := hr 43 (by decide)
  have r44 : gI (gp_wI X f) 44 = gI X 44 := funext (hr 44 (by decide))
  have p44 : ∀ j, gI (gp_wI X f) 44 j = gI X 44 j := hr 44 (by decide)
  have r45 : gI (gp_wI X f) 45 = gI X 45 := funext (hr 45 (by decide))
  have p45 : ∀ j, gI (gp_wI X f) 45 j = gI X 45 j := hr 45 (by decide)
  have r46 : gI (gp_wI X f) 46 = gI X 46 := funext (hr 46 (by decide))
  have p46 : ∀ j, gI (gp_wI X f) 46 j = gI X 46 j := hr 46 (by decide)
  have r97 : gI (gp_wI X f) 97 = gI X 97 := funext (hr 97 (by decide))
  have p97 : ∀ j, gI (gp_wI X f) 97 j = gI X 97 j := hr 97 (by decide)
  have r98 : gI (gp_wI X f) 98 = gI X 98 := funext (hr 98 (by decide))
  have p98 : ∀ j, gI (gp_wI X f) 98 j = gI X 98 j := hr 98 (by decide)
  have r99 : gI (gp_wI X f) 99 = gI X 99 := funext (hr 99 (by decide))
  have p99 : ∀ j, gI (gp_wI X f) 99 j = gI X 99 j := hr 99 (by decide)
  have r100 : gI (gp_wI X f) 100 = gI X 100 := funext (hr 100 (by decide))
  have p100 : ∀ j, gI (gp_wI X f) 100 j = gI X 100 j := hr 100 (by decide)
  have r101 : gI (gp_wI X f) 101 = gI X 101 := funext (hr 101 (by decide))
  have p101 : ∀ j, gI (gp_wI X f) 101 j = gI X 101 j := hr 101 (by decide)
  have s40_2 : gI (gp_wI X f) 40 2 = gI X 40 2 := hs (40, 2) (by decide)
  have s55_57 : gI (gp_wI X f) 55 57 = gI X 55 57 := hs (55, 57) (by decide)
  unfold I_law at h ⊢
  simp only [r42, p42, r43, p43, r44, p44, r45, p45, r46, p46, r97, p97, r98, p98, r99, p99, r100, p100, r101, p101, s40_2, s55_57]
  exact h
theorem I_tap_w {N : Nat → Nat} {X : gp_H} {f : Nat → Nat → Int32} (hr : ∀ r, r ∈ rw_tap → ∀ k, f r k = gI X r k) (hs : ∀ q, q ∈ sl_tap → f q.1 q.2 = gI X q.1 q.2) (h : I_tap N X) : I_tap N (gp_wI X f) := by
  have r41 : gI (gp_wI X f) 41 = gI X 41 := funext (hr 41 (by decide))
  have p41 : ∀ j, gI (gp_wI X f) 41 j = gI X 41 j := hr 41 (by decide)
  have r102 : gI (gp_wI X f) 102 = gI X 102 := funext (hr 102 (by decide))
  have p102 : ∀ j, gI (gp_wI X f) 102 j = gI X 102 j := hr 102 (by decide)
  have s40_0 : gI (gp_wI X f) 40 0 = gI X 40 0 := hs (40, 0) (by decide)
  have s55_64 : gI (gp_wI X f) 55 64 = gI X 55 64 := hs (55, 64) (by decide)
  unfold I_tap at h ⊢
  simp only [r41, p41, r102, p102, s40_0, s55_64]
  exact h
theorem I_trc_w {X : gp_H} {f : Nat → Nat → Int32} (hr : ∀ r, r ∈ rw_trc → ∀ k, f r k = gI X r k) (hs : ∀ q, q ∈ sl_trc → f q.1 q.2 = gI X q.1 q.2) (h : I_trc X) : I_trc (gp_wI X f) := by
  have r14 : gI (gp_wI X f) 14 = gI X 14 := funext (hr 14 (by decide))
  have p14 : ∀ j, gI (gp_wI X f) 14 j = gI X 14 j := hr 14 (by decide)
  have r103 : gI (gp_wI X f) 103 = gI X 103 := funext (hr 103 (by decide))
  have p103 : ∀ j, gI (gp_wI X f) 103 j = gI X 103 j := hr 103 (by decide)
  have s13_1 : gI (gp_wI X f) 13 1 = gI X 13 1 := hs (13, 1) (by decide)
  have s55_65 : gI (gp_wI X f) 55 65 = gI X 55 65 := hs (55, 65) (by decide)
  unfold I_trc at h ⊢
  simp only [r14, p14, r103, p103, s13_1, s55_65]
  exact h
theorem I_txt_w {X : gp_H} {f : Nat → Nat → Int32} (hr : ∀ r, r ∈ rw_txt → ∀ k, f r k = gI X r k) (hs : ∀ q, q ∈ sl_txt → f q.1 q.2 = gI X q.1 q.2) (h : I_txt X) : I_txt (gp_wI X f) := by
  have r110 : gI (gp_wI X f) 110 = gI X 110 := funext (hr 110 (by decide))
  have p110 : ∀ j, gI (gp_wI X f) 110 j = gI X 110 j := hr 110 (by decide)
  have r111 : gI (gp_wI X f) 111 = gI X 111 := funext (hr 111 (by decide))
  have p111 : ∀ j, gI (gp_wI X f) 111 j = gI X 111 j := hr 111 (by decide)
  unfold I_txt at h ⊢
  simp only [r110, p110, r111, p111]
  exact h
theorem I_she_w {X : gp_H} {f : Nat → Nat → Int32} (hr : ∀ r, r ∈ rw_she → ∀ k, f r k = gI X r k) (h : I_she X) : I_she (gp_wI X f) := by
  have e : ∀ i k', (49 ≤ i ∧ i ≤ 54) ∨ (104 ≤ i ∧ i ≤ 106) → gI (gp_wI X f) i k' = gI X i k' := fun i k' hi => by
    refine hr i ?_ k'
    simp only [rw_she, List.mem_cons, List.not_mem_nil, or_false]
    omega
  intro s hs
  have := h s hs
  rw [e 49 s (by omega), e 50 s (by omega), e 104 s (by omega), e 105 s (by omega)]
  refine ⟨this.1, this.2.1, fun h3 => ⟨(this.2.2 h3).1, (this.2.2 h3).2.1, fun i hi => ?_⟩⟩
  rw [e (52 + s) i (by omega), e 106 _ (by omega)]
  exact (this.2.2 h3).2.2 i hi
/-- what W names is written: whole rows of arrays, slots of objects -/
def off (W : List (Nat × Nat)) (a k : Nat) : Bool := W.all (fun q => !(q.1 == a && (!isO a || q.2 == k)))
theorem off_row {W : List (Nat × Nat)} {c r : Nat} (hq : ∀ q, q ∈ W → fr c q.1 q.2 = true) (h : ∀ k, fr c r k = false) (k : Nat) : off W r k = true := by
  refine List.all_eq_true.mpr (fun q hw => ?_)
  by_cases e : q.1 = r
  · have := hq q hw
    rw [e, h] at this
    exact absurd this (by decide)
  · rw [show (q.1 == r) = false from beq_eq_false_iff_ne.mpr e]; rfl
theorem off_slot {W : List (Nat × Nat)} {c a k : Nat} (hq : ∀ q, q ∈ W → fr c q.1 q.2 = true) (ho : isO a = true) (h : fr c a k = false) : off W a k = true := by
  refine List.all_eq_true.mpr (fun q hw => ?_)
  by_cases e : q.1 = a
  · by_cases e2 : q.2 = k
    · have := hq q hw
      rw [e, e2, h] at this
      exact absurd this (by decide)
    · rw [show (q.2 == k) = false from beq_eq_false_iff_ne.mpr e2, ho, Bool.not_true, Bool.false_or, Bool.and_false]; rfl
  · rw [show (q.1 == a) = false from beq_eq_false_iff_ne.mpr e]; rfl
theorem off_big {W : List (Nat × Nat)} {a k : Nat} (hW : W.all (fun q => Nat.blt q.1 114) = true) (h : 114 ≤ a) : off W a k = true := by
  refine List.all_eq_true.mpr (fun q hw => ?_)
  have : q.1 < 114 := Nat.le_of_ble_eq_true (List.all_eq_true.mp hW q hw)
  rw [show (q.1 == a) = false from beq_eq_false_iff_ne.mpr (by omega)]; rfl
/-- a home is no model -/
theorem hm_md {S : gp_S} {X : gp_H} (h : Lay S X) {i j : Nat} (hi : i < S.2.1) (hj : j < S.1) : S.2.2.2.1 i ≠ S.2.2.1 j := by
  intro e
  have a := (h.2.2.2.1 i hi).2.1.2
  have b := (h.2.2.2.2.1 j hj).2.1.2
  have g := (h.2.2.2.1 i hi).2.2.2.2
  rw [e, b] at a
  have : S.2.2.2.2.1 i = 3 := (congrArg Prod.fst a).symm
  rw [this] at g
  exact absurd g.2 (by decide)
theorem X_w {m : Nat → Bool} {N : Nat → Nat} {S : gp_S} {X : gp_H} {f : Nat → Nat → Int32} (W : List (Nat × Nat)) (H : Bool) (h : InvX m N S X) (hf : ∀ a k, off W a k = true → (H = false ∨ ∀ j, j < S.1 → a ≠ S.2.2.1 j) → f a k = gI X a k) (hW : W.all (fun q => Nat.blt q.1 114) = true := by rfl) : InvX (fun i => m i && W.all (fun q => fr i q.1 q.2) && (!H || !(i == 5 || i == 7))) N S (gp_wI X f) := by
  have hl := h.1
  have sm : ∀ a k, a < 114 → off W a k = true → f a k = gI X a k := fun a k ha ho => hf a k ho (Or.inr (fun j hj e => by have := (hl.2.2.2.2.1 j hj).2.2.1; omega))
  refine ⟨hl, fun q => ?_, fun q => ?_, fun q => ?_, fun q => ?_, fun q => ?_, fun q => ?_, fun q => ?_, fun q => ?_, fun q => ?_, fun q => ?_, fun q => ?_, fun q => ?_, fun q => ?_, fun q => ?_, fun q => ?_, fun q => ?_, fun q => ?_, fun q => ?_, fun q => ?_, fun q => ?_, fun q => ?_⟩
  · simp only [Bool.and_eq_true] at q
    obtain ⟨⟨q1, q2⟩, q3⟩ := q
    have q2 := List.all_eq_true.mp q2
    exact I_net_w (fun r hr k => sm r k (rwf_net r hr).1 (off_row q2 (rwf_net r hr).2.2 k)) (fun q hq => sm q.1 q.2 (slf_net q hq).1 (off_slot q2 ((by decide : ∀ q, q ∈ sl_net → isO q.1 = true) q hq) (slf_net q hq).2)) (h.2.1 q1)
  · simp only [Bool.and_eq_true] at q
    obtain ⟨⟨q1, q2⟩, q3⟩ := q
    have q2 := List.all_eq_true.mp q2
    exact I_wrk_w (fun r hr k => sm r k (rwf_wrk r hr).1 (off_row q2 (rwf_wrk r hr).2.2 k)) (fun q hq => sm q.1 q.2 (slf_wrk q hq).1 (off_slot q2 ((by decide : ∀ q, q ∈ sl_wrk → isO q.1 = true) q hq) (slf_wrk q hq).2)) (h.2.2.1 q1)
  · simp only [Bool.and_eq_true] at q
    obtain ⟨⟨q1, q2⟩, q3⟩ := q
    have q2 := List.all_eq_true.mp q2
    exact I_stp_w (fun r hr k => sm r k (rwf_stp r hr).1 (off_row q2 (rwf_stp r hr).2.2 k)) (fun q hq => sm q.1 q.2 (slf_stp q hq).1 (off_slot q2 ((by decide : ∀ q, q ∈ sl_stp → isO q.1 = true) q hq) (slf_stp q hq).2)) (h.2.2.2.1 q1)
  · simp only [Bool.and_eq_true] at q
    obtain ⟨⟨q1, q2⟩, q3⟩ := q
    have q2 := List.all_eq_true.mp q2
    exact I_mod_cg (sm 0 4 (by decide) (off_slot q2 rfl rfl)) (sm 55 13 (by decide) (off_slot q2 rfl rfl)) (fun i l r k => sm i k (by omega) (off_row q2 (rwf_mod i (by simp only [rw_mod, List.mem_cons, List.not_mem_nil, or_false]; omega)).2.2 k)) (fun j hj k => hf _ k (off_big hW (hl.2.2.2.1 j hj).2.2.1) (Or.inr (fun i hi => hm_md hl hj hi))) (h.2.2.2.2.1 q1)
  · simp only [Bool.and_eq_true] at q
    obtain ⟨⟨q1, q2⟩, q3⟩ := q
    have q2 := List.all_eq_true.mp q2
    have hH : H = false := by cases H with
      | false => rfl
      | true => exact absurd q3 (by decide)
    exact I_hom_cg (Nat.le_refl _) (sm 0 6 (by decide) (off_slot q2 rfl rfl)) (sm 55 19 (by decide) (off_slot q2 rfl rfl)) (fun i l r k => sm i k (by omega) (off_row q2 (rwf_hom i (by simp only [rw_hom, List.mem_cons, List.not_mem_nil, or_false]; omega)).2.2 k)) (fun j hj k => hf _ k (off_big hW (hl.2.2.2.2.1 j hj).2.2.1) (Or.inl hH)) (h.2.2.2.2.2.1 q1)
  · simp only [Bool.and_eq_true] at q
    obtain ⟨⟨q1, q2⟩, q3⟩ := q
    have q2 := List.all_eq_true.mp q2
    exact I_flt_w (fun r hr k => sm r k (rwf_flt r hr).1 (off_row q2 (rwf_flt r hr).2.2 k)) (fun q hq => sm q.1 q.2 (slf_flt q hq).1 (off_slot q2 ((by decide : ∀ q, q ∈ sl_flt → isO q.1 = true) q hq) (slf_flt q hq).2)) (h.2.2.2.2.2.2.1 q1)
  · simp only [Bool.and_eq_true] at q
    obtain ⟨⟨q1, q2⟩, q3⟩ := q
    have q2 := List.all_eq_true.mp q2
    have hH : H = false := by cases H with
      | false => rfl
      | true => exact absurd q3 (by decide)
    exact I_sur_cg rfl (sm 0 9 (by decide) (off_slot q2 rfl rfl)) (sm 55 29 (by decide) (off_slot q2 rfl rfl)) (fun i hi => funext fun k => sm i k (by omega) (off_row q2 (rwf_sur i (by simp only [rw_sur, List.mem_cons, List.not_mem_nil, or_false]; omega)).2.2 k)) (fun j hj => hf _ 9 (off_big hW (hl.2.2.2.2.1 j hj).2.2.1) (Or.inl hH)) (h.2.2.2.2.2.2.2.1 q1)
  · simp only [Bool.and_eq_true] at q
    obtain ⟨⟨q1, q2⟩, q3⟩ := q
    have q2 := List.all_eq_true.mp q2
    exact I_stk_w (fun r hr k => sm r k (rwf_stk r hr).1 (off_row q2 (rwf_stk r hr).2.2 k)) (fun q hq => sm q.1 q.2 (slf_stk q hq).1 (off_slot q2 ((by decide : ∀ q, q ∈ sl_stk → isO q.1 = true) q hq) (slf_stk q hq).2)) (h.2.2.2.2.2.2.2.2.1 q1)
  · simp only [Bool.and_eq_true] at q
    obtain ⟨⟨q1, q2⟩, q3⟩ := q
    have q2 := List.all_eq_true.mp q2
    exact I_ord_w (fun r hr k => sm r k (rwf_ord r hr).1 (off_row q2 (rwf_ord r hr).2.2 k)) (fun q hq => sm q.1 q.2 (slf_ord q hq).1 (off_slot q2 ((by decide : ∀ q, q ∈ sl_ord → isO q.1 = true) q hq) (slf_ord q hq).2)) (h.2.2.2.2.2.2.2.2.2.1 q1)
  · simp only [Bool.and_eq_true] at q
    obtain ⟨⟨q1, q2⟩, q3⟩ := q
    have q2 := List.all_eq_true.mp q2
    exact I_sec_w (fun r hr k => sm r k (rwf_sec r hr).1 (off_row q2 (rwf_sec r hr).2.2 k)) (fun q hq => sm q.1 q.2 (slf_sec q hq).1 (off_slot q2 ((by decide : ∀ q, q ∈ sl_sec → isO q.1 = true) q hq) (slf_sec q hq).2)) (h.2.2.2.2.2.2.2.2.2.2.1 q1)
  · simp only [Bool.and_eq_true] at q
    obtain ⟨⟨q1, q2⟩, q3⟩ := q
    have q2 := List.all_eq_true.mp q2
    exact I_pln_w (fun r hr k => sm r k (rwf_pln r hr).1 (off_row q2 (rwf_pln r hr).2.2 k)) (fun q hq => sm q.1 q.2 (slf_pln q hq).1 (off_slot q2 ((by decide : ∀ q, q ∈ sl_pln → isO q.1 = true) q hq) (slf_pln q hq).2)) (h.2.2.2.2.2.2.2.2.2.2.2.1 q1)
  · simp only [Bool.and_eq_true] at q
    obtain ⟨⟨q1, q2⟩, q3⟩ := q
    have q2 := List.all_eq_true.mp q2
    exact I_row_w (fun r hr k => sm r k (rwf_row r hr).1 (off_row q2 (rwf_row r hr).2.2 k)) (fun q hq => sm q.1 q.2 (slf_row q hq).1 (off_slot q2 ((by decide : ∀ q, q ∈ sl_row → isO q.1 = true) q hq) (slf_row q hq).2)) (h.2.2.2.2.2.2.2.2.2.2.2.2.1 q1)
  · simp only [Bool.and_eq_true] at q
    obtain ⟨⟨q1, q2⟩, q3⟩ := q
    have q2 := List.all_eq_true.mp q2
    exact I_wek_w (fun r hr k => sm r k (rwf_wek r hr).1 (off_row q2 (rwf_wek r hr).2.2 k)) (fun q hq => sm q.1 q.2 (slf_wek q hq).1 (off_slot q2 ((by decide : ∀ q, q ∈ sl_wek → isO q.1 = true) q hq) (slf_wek q hq).2)) (h.2.2.2.2.2.2.2.2.2.2.2.2.2.1 q1)
  · simp only [Bool.and_eq_true] at q
    obtain ⟨⟨q1, q2⟩, q3⟩ := q
    have q2 := List.all_eq_true.mp q2
    exact I_fit_w (fun r hr k => sm r k (rwf_fit r hr).1 (off_row q2 (rwf_fit r hr).2.2 k)) (fun q hq => sm q.1 q.2 (slf_fit q hq).1 (off_slot q2 ((by decide : ∀ q, q ∈ sl_fit → isO q.1 = true) q hq) (slf_fit q hq).2)) (h.2.2.2.2.2.2.2.2.2.2.2.2.2.2.1 q1)
  · simp only [Bool.and_eq_true] at q
    obtain ⟨⟨q1, q2⟩, q3⟩ := q
    have q2 := List.all_eq_true.mp q2
    exact I_sml_w (fun r hr k => sm r k (rwf_sml r hr).1 (off_row q2 (rwf_sml r hr).2.2 k)) (fun q hq => sm q.1 q.2 (slf_sml q hq).1 (off_slot q2 ((by decide : ∀ q, q ∈ sl_sml → isO q.1 = true) q hq) (slf_sml q hq).2)) (h.2.2.2.2.2.2.2.2.2.2.2.2.2.2.2.1 q1)
  · simp only [Bool.and_eq_true] at q
    obtain ⟨⟨q1, q2⟩, q3⟩ := q
    have q2 := List.all_eq_true.mp q2
    exact I_lim_w (fun r hr k => sm r k (rwf_lim r hr).1 (off_row q2 (rwf_lim r hr).2.2 k)) (fun q hq => sm q.1 q.2 (slf_lim q hq).1 (off_slot q2 ((by decide : ∀ q, q ∈ sl_lim → isO q.1 = true) q hq) (slf_lim q hq).2)) (h.2.2.2.2.2.2.2.2.2.2.2.2.2.2.2.2.1 q1)
  · simp only [Bool.and_eq_true] at q
    obtain ⟨⟨q1, q2⟩, q3⟩ := q
    have q2 := List.all_eq_true.mp q2
    exact I_law_w (fun r hr k => sm r k (rwf_law r hr).1 (off_row q2 (rwf_law r hr).2.2 k)) (fun q hq => sm q.1 q.2 (slf_law q hq).1 (off_slot q2 ((by decide : ∀ q, q ∈ sl_law → isO q.1 = true) q hq) (slf_law q hq).2)) (h.2.2.2.2.2.2.2.2.2.2.2.2.2.2.2.2.2.1 q1)
  · simp only [Bool.and_eq_true] at q
    obtain ⟨⟨q1, q2⟩, q3⟩ := q
    have q2 := List.all_eq_true.mp q2
    exact I_tap_w (fun r hr k => sm r k (rwf_tap r hr).1 (off_row q2 (rwf_tap r hr).2.2 k)) (fun q hq => sm q.1 q.2 (slf_tap q hq).1 (off_slot q2 ((by decide : ∀ q, q ∈ sl_tap → isO q.1 = true) q hq) (slf_tap q hq).2)) (h.2.2.2.2.2.2.2.2.2.2.2.2.2.2.2.2.2.2.1 q1)
  · simp only [Bool.and_eq_true] at q
    obtain ⟨⟨q1, q2⟩, q3⟩ := q
    have q2 := List.all_eq_true.mp q2
    exact I_trc_w (fun r hr k => sm r k (rwf_trc r hr).1 (off_row q2 (rwf_trc r hr).2.2 k)) (fun q hq => sm q.1 q.2 (slf_trc q hq).1 (off_slot q2 ((by decide : ∀ q, q ∈ sl_trc → isO q.1 = true) q hq) (slf_trc q hq).2)) (h.2.2.2.2.2.2.2.2.2.2.2.2.2.2.2.2.2.2.2.1 q1)
  · simp only [Bool.and_eq_true] at q
    obtain ⟨⟨q1, q2⟩, q3⟩ := q
    have q2 := List.all_eq_true.mp q2
    exact I_she_w (fun r hr k => sm r k (rwf_she r hr).1 (off_row q2 (rwf_she r hr).2.2 k)) (h.2.2.2.2.2.2.2.2.2.2.2.2.2.2.2.2.2.2.2.2.1 q1)
  · simp only [Bool.and_eq_true] at q
    obtain ⟨⟨q1, q2⟩, q3⟩ := q
    have q2 := List.all_eq_true.mp q2
    exact I_txt_w (fun r hr k => sm r k (rwf_txt r hr).1 (off_row q2 (rwf_txt r hr).2.2 k)) (fun q hq => sm q.1 q.2 (slf_txt q hq).1 (off_slot q2 ((by decide : ∀ q, q ∈ sl_txt → isO q.1 = true) q hq) (slf_txt q hq).2)) (h.2.2.2.2.2.2.2.2.2.2.2.2.2.2.2.2.2.2.2.2.2 q1)
/-- the frame at once: all of the invariant but what W and H touch -/
theorem iv_w {N : Nat → Nat} {S : gp_S} {X X' : gp_H} {f : Nat → Nat → Int32} (W : List (Nat × Nat)) (H : Bool) (N' : Nat → Nat) (h : Inv N S X) (hX : X' = gp_wI X f) (hf : ∀ a k, off W a k = true → (H = false ∨ ∀ j, j < S.1 → a ≠ S.2.2.1 j) → f a k = gI X a k) (g : InvX (fun i => W.all (fun q => fr i q.1 q.2) && (!H || !(i == 5 || i == 7))) N S X' → Inv N' S X') (hW : W.all (fun q => Nat.blt q.1 114) = true := by rfl) : ∃ N, Inv N S X' := by
  subst hX
  refine ⟨N', g ?_⟩
  have := X_w W H (X_0 h) hf hW
  simp only [Bool.true_and] at this
  exact this
/-- writing once more -/
theorem w_sI {X : gp_H} {f : Nat → Nat → Int32} {a k : Nat} {v : Int32} : gp_sI (gp_wI X f) a k v = gp_wI X (gp_up f a k v) := rfl
theorem w_0 {X : gp_H} {a k : Nat} {v : Int32} : gp_sI X a k v = gp_wI X (gp_up (gI X) a k v) := rfl
theorem w_id {X : gp_H} : gp_wI X (gI X) = X := rfl
theorem w_w {X : gp_H} {f g : Nat → Nat → Int32} : gp_wI (gp_wI X f) g = gp_wI X g := rfl
/-- FILL -/
theorem s_ar_fill {E : gp_E} {S : gp_S} {X : gp_H} {a n : Nat} {v : Int32} (hX : Lay S X) (ha : gp_at X a (13, n)) (hn : n ≤ 1000) : Ev E m_ar_fill 0 [(0, .ref a), (1, .int v)] [] X (0, 0) (gp_q none (gp_wI X (fun i k => if i = a ∧ k < n then v else gI X i k))) := by
  refine b_ar_fill_0 hX ha ?_
  have e0 : (fun i j => if i = a ∧ j < 0 then v else gI X i j) = gI X := funext fun i => funext fun k => if_neg (fun q => Nat.not_lt_zero _ q.2)
  suffices key : Ev E m_ar_fill 5 [(0, .ref a), (1, .int v), (2, .int (nI 0)), (3, .int (Int32.ofNat n))] [] (gp_wI X (fun i j => if i = a ∧ j < 0 then v else gI X i j)) (0, 0) (gp_q none (gp_wI X (fun i k => if i = a ∧ k < n then v else gI X i k))) by
    rw [e0] at key
    exact key
  refine dn (P := fun k => Ev E m_ar_fill 5 [(0, .ref a), (1, .int v), (2, .int (nI k)), (3, .int (Int32.ofNat n))] [] (gp_wI X (fun i j => if i = a ∧ j < k then v else gI X i j)) (0, 0) (gp_q none (gp_wI X (fun i k => if i = a ∧ k < n then v else gI X i k)))) (n := n) ?_ ?_
  · exact b_ar_fill_5 (ly_wI hX) (at_wI ha) ⟨fun _ => ⟨rfl, rfl⟩, fun z => absurd (Int32.le_refl _) z⟩
  · intro k hk ih
    refine b_ar_fill_5 (ly_wI hX) (at_wI ha) ⟨fun z => absurd z (nI_nge (b := n) hk (by omega)), fun _ => ⟨vin hk (by omega), ?_⟩⟩
    rw [nI_c (by omega), nI_s, w_sI]
    have e : gp_up (fun i j => if i = a ∧ j < k then v else gI X i j) a k v = (fun i j => if i = a ∧ j < k + 1 then v else gI X i j) := by
      funext i j
      show (if i = a ∧ j = k then v else if i = a ∧ j < k then v else gI X i j) = (if i = a ∧ j < k + 1 then v else gI X i j)
      by_cases z1 : i = a ∧ j < k + 1
      · rw [if_pos z1]
        by_cases z2 : j = k
        · rw [if_pos ⟨z1.1, z2⟩]
        · rw [if_neg (fun q => z2 q.2), if_pos ⟨z1.1, by omega⟩]
      · rw [if_neg z1, if_neg (fun q => z1 ⟨q.1, by omega⟩), if_neg (fun q => z1 ⟨q.1, by omega⟩)]
    rw [e]
    exact ih
