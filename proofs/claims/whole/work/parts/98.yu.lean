section HOM
variable {E : gp_E} {N : Nat → Nat} {S : gp_S} {X Y : gp_H}
def mkH (Y : gp_H) (a : Nat) (v0 v1 v2 : Int32) (m : Nat) : gp_H := gp_sR (gp_sI (gp_sI (gp_sI (gp_sI (gp_sI (gp_sI (gp_sI Y a 4 0) a 5 (-1)) a 6 (-1)) a 7 (-1)) a 0 v0) a 1 v1) a 2 v2) a 3 (some m)
theorem mh_at (Y : gp_H) (a b k : Nat) (v0 v1 v2 : Int32) (m : Nat) : gI (mkH Y a v0 v1 v2 m) b k = if b = a ∧ k = 2 then v2 else if b = a ∧ k = 1 then v1 else if b = a ∧ k = 0 then v0 else if b = a ∧ k = 7 then -1 else if b = a ∧ k = 6 then -1 else if b = a ∧ k = 5 then -1 else if b = a ∧ k = 4 then 0 else gI Y b k := rfl
theorem s_ho_init {a m : Nat} (ha : gp_at X a (3, 0)) (v0 v1 v2 : Int32) : Ev E m_ho_init 0 [(0, .ref a), (1, .int v0), (2, .int v1), (3, .int v2), (4, .ref m)] [] X (0, 0) (gp_q none (mkH X a v0 v1 v2 m)) := by
  refine ev_aload_n (x := a) (pc := 0) d_ho_init_0 rfl ?_
  refine ev_obj (rest := []) (pc := 1) d_ho_init_1 l_ho_3 x_obj1 x_obj2 ⟨Nat.le_of_ble_eq_true rfl, Nat.le_of_ble_eq_true rfl⟩ ?_
  refine ev_aload_n (x := a) (pc := 4) d_ho_init_4 rfl ?_
  refine ev_iconst (v := 0) (pc := 5) d_ho_init_5 kc_i_0 ?_
  refine ev_putI (pc := 6) d_ho_init_6 f_ho_9 ha gg_3 rfl (by first | exact Or.inl rfl | exact Or.inr ⟨rfl, rfl, rfl⟩) (vp_nar_int _) rfl ?_
  refine ev_aload_n (x := a) (pc := 9) d_ho_init_9 rfl ?_
  refine ev_iconst (v := -1) (pc := 10) d_ho_init_10 kc_i_m1 ?_
  refine ev_putI (pc := 11) d_ho_init_11 f_ho_15 (at_sI ha) gg_3 rfl (by first | exact Or.inl rfl | exact Or.inr ⟨rfl, rfl, rfl⟩) (vp_nar_int _) rfl ?_
  refine ev_aload_n (x := a) (pc := 14) d_ho_init_14 rfl ?_
  refine ev_iconst (v := -1) (pc := 15) d_ho_init_15 kc_i_m1 ?_
  refine ev_putI (pc := 16) d_ho_init_16 f_ho_18 (at_sI (at_sI ha)) gg_3 rfl (by first | exact Or.inl rfl | exact Or.inr ⟨rfl, rfl, rfl⟩) (vp_nar_int _) rfl ?_
  refine ev_aload_n (x := a) (pc := 19) d_ho_init_19 rfl ?_
  refine ev_iconst (v := -1) (pc := 20) d_ho_init_20 kc_i_m1 ?_
  refine ev_putI (pc := 21) d_ho_init_21 f_ho_21 (at_sI (at_sI (at_sI ha))) gg_3 rfl (by first | exact Or.inl rfl | exact Or.inr ⟨rfl, rfl, rfl⟩) (vp_nar_int _) rfl ?_
  refine ev_aload_n (x := a) (pc := 24) d_ho_init_24 rfl ?_
  refine ev_iload_n (x := v0) (pc := 25) d_ho_init_25 rfl ?_
  refine ev_putI (pc := 26) d_ho_init_26 f_ho_24 (at_sI (at_sI (at_sI (at_sI ha)))) gg_3 rfl (by first | exact Or.inl rfl | exact Or.inr ⟨rfl, rfl, rfl⟩) (vp_nar_int _) rfl ?_
  refine ev_aload_n (x := a) (pc := 29) d_ho_init_29 rfl ?_
  refine ev_iload_n (x := v1) (pc := 30) d_ho_init_30 rfl ?_
  refine ev_putI (pc := 31) d_ho_init_31 f_ho_27 (at_sI (at_sI (at_sI (at_sI (at_sI ha))))) gg_3 rfl (by first | exact Or.inl rfl | exact Or.inr ⟨rfl, rfl, rfl⟩) (vp_nar_int _) rfl ?_
  refine ev_aload_n (x := a) (pc := 34) d_ho_init_34 rfl ?_
  refine ev_iload_n (x := v2) (pc := 35) d_ho_init_35 rfl ?_
  refine ev_putI (pc := 36) d_ho_init_36 f_ho_30 (at_sI (at_sI (at_sI (at_sI (at_sI (at_sI ha)))))) gg_3 rfl (by first | exact Or.inl rfl | exact Or.inr ⟨rfl, rfl, rfl⟩) (vp_nar_int _) rfl ?_
  refine ev_aload_n (x := a) (pc := 39) d_ho_init_39 rfl ?_
  refine ev_aload (x := m) (pc := 40) d_ho_init_40 rfl ?_
  refine ev_putR (pc := 42) d_ho_init_42 f_ho_33 (at_sI (at_sI (at_sI (at_sI (at_sI (at_sI (at_sI ha))))))) gg_3 rfl (by first | exact Or.inl rfl | exact Or.inr ⟨rfl, rfl, rfl⟩) (fun _ => rfl) (fun _ => rfl) ?_
  exact ev_ret (pc := 45) ⟨Nat.le_of_ble_eq_true rfl, Nat.le_of_ble_eq_true rfl⟩ d_ho_init_45 rfl ⟨rfl, rfl⟩
/-- a new home, on the class's side -/
def hmX (X : gp_H) (n : Nat) (v0 v1 v2 : Int32) (m : Nat) : gp_H := gp_sI (gp_sR (mkH (gp_nw X (3, 0)) X.1 v0 v1 v2 m) 16 n (some X.1)) 0 6 (nI (n + 1))
theorem s_home61 (lX : Lay S X) {n m : Nat} (hn : n < 40) (e6 : gI X 0 6 = nI n) (x1 x2 x3 x4 : Int32) {Q : Option Value → gp_H → Prop} (hq : Q (some (.int (nI n))) (hmX X n x1 x2 x3 m)) : Ev E m_ga_home 61 [(0, .ref 0), (1, .int x1), (2, .int x2), (3, .int x3), (4, .int x4), (5, .ref m)] [] X (0, 0) Q := by
  have l0 : 114 ≤ X.1 := lX.1
  have e6' : gI (gp_nw X (3, 0)) 0 6 = nI n := (nw_i (by omega)).trans e6
  have a0 : gp_at (gp_nw X (3, 0)) 0 (11, 0) := at_nw (ly_at lX 0 rfl)
  have a16 : gp_at (gp_nw X (3, 0)) 16 (17, 40) := at_nw (ly_at lX 16 rfl)
  have an : gp_at (gp_nw X (3, 0)) X.1 (3, 0) := at_new rfl
  refine ev_aload_n (x := 0) (pc := 61) d_ga_home_61 rfl ?_
  refine ev_getR (j := 16) (pc := 62) d_ga_home_62 f_ga_35 (ly_at lX 0 rfl) gg_11 rfl (ly_rf lX 0 5 rfl) ?_
  refine ev_aload_n (x := 0) (pc := 65) d_ga_home_65 rfl ?_
  refine ev_getI (pc := 66) d_ga_home_66 f_ga_198 (ly_at lX 0 rfl) gg_11 rfl ?_
  have e6'' : X.2.2.2.1 0 6 = nI n := e6
  rw [e6'']
  refine ev_newJ (r := X.1) (u2 := (1, 10)) (ci := 3) (N := 10) (pc := 69) rfl d_ga_home_69 lt13_3 rfl c_ga_33 n_ho tt_ho ⟨Nat.le_of_ble_eq_true rfl, Nat.le_of_ble_eq_true rfl⟩ rfl ?_
  refine ev_dup (pc := 72) d_ga_home_72 rfl ?_
  refine ev_iload_n (x := x1) (pc := 73) d_ga_home_73 rfl ?_
  refine ev_iload_n (x := x2) (pc := 74) d_ga_home_74 rfl ?_
  refine ev_iload_n (x := x3) (pc := 75) d_ga_home_75 rfl ?_
  refine ev_aload (x := m) (pc := 76) d_ga_home_76 rfl ?_
  refine ev_callI (z := m_ho_init) (as := [.int x1, .int x2, .int x3, .ref m]) (rest := [.ref X.1, .int (nI n), .ref 16]) (pc := 78) d_ga_home_78 l_ga_201 i_ho_init o_ho_init rfl rfl rfl rfl (Nat.le_of_ble_eq_true rfl) rfl (Nat.le_of_ble_eq_true rfl) ⟨Nat.le_of_ble_eq_true rfl, Nat.le_of_ble_eq_true rfl⟩ (s_ho_init an x1 x2 x3) (fun r X2 hq2 => ?_)
  obtain ⟨rfl, rfl⟩ := hq2
  show Ev E m_ga_home 81 _ [.ref X.1, .int (nI n), .ref 16] _ (1, 10) Q
  refine ev_ast4 (n := 40) (pc := 81) d_ga_home_81 a16 (vin hn (by omega)) an lt13_3 (Or.inl rfl) ?_
  rw [nI_c (by omega)]
  refine ev_aload_n (x := 0) (pc := 82) d_ga_home_82 rfl ?_
  refine ev_dup (pc := 83) d_ga_home_83 rfl ?_
  refine ev_getI (pc := 84) d_ga_home_84 f_ga_198 a0 gg_11 rfl ?_
  have e5 : (gp_sR (mkH (gp_nw X (3, 0)) X.1 x1 x2 x3 m) 16 n (some X.1)).2.2.2.1 0 6 = nI n := by
    show gI (mkH (gp_nw X (3, 0)) X.1 x1 x2 x3 m) 0 6 = _
    rw [mh_at, if_neg (by omega), if_neg (by omega), if_neg (by omega), if_neg (by omega), if_neg (by omega), if_neg (by omega), if_neg (by omega)]
    exact e6'
  rw [e5]
  refine ev_dup_x1 (pc := 87) d_ga_home_87 rfl rfl ?_
  refine ev_iconst (v := 1) (pc := 88) d_ga_home_88 kc_i_1 ?_
  refine ev_iadd (pc := 89) d_ga_home_89 ?_
  refine ev_putI (pc := 90) d_ga_home_90 f_ga_198 a0 gg_11 rfl (by first | exact Or.inl rfl | exact Or.inr ⟨rfl, rfl, rfl⟩) (vp_nar_int _) rfl ?_
  rw [nI_s]
  exact ev_iret (pc := 93) ⟨Nat.le_of_ble_eq_true rfl, Nat.le_of_ble_eq_true rfl⟩ d_ga_home_93 rfl (vp_nar_int _) hq
def sH (S : gp_S) (a m : Nat) : gp_S := (S.1 + 1, S.2.1, (fun j => if j = S.1 then a else S.2.2.1 j), S.2.2.2.1, S.2.2.2.2.1, (fun j => if j = S.1 then m else S.2.2.2.2.2 j))
def hmR (Y : gp_H) (n : Nat) (v0 v1 v2 v3 : Int32) : gp_H := gp_sI (gp_sI (gp_sI (gp_sI (gp_sI (gp_sI (gp_sI (gp_sI (gp_sI Y 70 n v0) 71 n v1) 72 n v2) 73 n v3) 74 n 0) 75 n (-1)) 76 n (-1)) 77 n (-1)) 55 19 (nI n + 1)
theorem lay_H (l : Lay S X) {m : Nat} (hn : S.1 < 40) (hm : m < S.2.1) (v0 v1 v2 : Int32) : Lay (sH S X.1 m) (hmX X S.1 v0 v1 v2 (S.2.2.2.1 m)) := by
  obtain ⟨l0, l1, l2, l3, l4, l5, l6, l7, l8⟩ := l
  have rf : ∀ b k, b ≠ X.1 → ¬ (b = 16 ∧ k = S.1) → (hmX X S.1 v0 v1 v2 (S.2.2.2.1 m)).2.2.1 b k = X.2.2.1 b k := fun b k z1 z2 => by
    show (if b = 16 ∧ k = S.1 then some X.1 else (if b = X.1 ∧ k = 3 then some (S.2.2.2.1 m) else (if b = X.1 then (fun _ => none) else X.2.2.1 b) k)) = _
    rw [if_neg z2, if_neg (fun y => z1 y.1), if_neg z1]
  have at_ : ∀ {b : Nat} {q : Nat × Nat}, gp_at X b q → gp_at (hmX X S.1 v0 v1 v2 (S.2.2.2.1 m)) b q := fun z => at_nw z
  have kd : ∀ b, b ≠ X.1 → (hmX X S.1 v0 v1 v2 (S.2.2.2.1 m)).2.1 b = X.2.1 b := fun b z => if_neg z
  refine ⟨Nat.le_succ_of_le l0, fun b hb => (kd b (by omega)).trans (l1 b hb), fun b hb z1 z2 k => (rf b k (by omega) (fun y => z2 y.1)).trans (l2 b hb z1 z2 k), fun j hj => ?_, fun j hj => ?_, l5, fun j j' hj hj' e => ?_, l7, show S.1 + 1 ≤ 40 by omega⟩
  · obtain ⟨m1, m2, m3, m4, m5⟩ := l3 j hj
    have := m2.1
    exact ⟨(rf 15 j (by omega) (by omega)).trans m1, at_ m2, m3, (rf (S.2.2.2.1 j) 0 (by omega) (by omega)).trans m4, m5⟩
  · have hj' : j < S.1 + 1 := hj
    show (hmX X S.1 v0 v1 v2 (S.2.2.2.1 m)).2.2.1 16 j = some (if j = S.1 then X.1 else S.2.2.1 j) ∧ gp_at _ (if j = S.1 then X.1 else S.2.2.1 j) (3, 0) ∧ 114 ≤ (if j = S.1 then X.1 else S.2.2.1 j) ∧ (hmX X S.1 v0 v1 v2 (S.2.2.2.1 m)).2.2.1 (if j = S.1 then X.1 else S.2.2.1 j) 3 = some (S.2.2.2.1 (if j = S.1 then m else S.2.2.2.2.2 j)) ∧ (if j = S.1 then m else S.2.2.2.2.2 j) < S.2.1
    by_cases z : j = S.1
    · rw [if_pos z, if_pos z]
      refine ⟨?_, at_new rfl, l0, ?_, hm⟩
      · show (if 16 = 16 ∧ j = S.1 then some X.1 else _) = _
        rw [if_pos ⟨rfl, z⟩]
      · show (if X.1 = 16 ∧ 3 = S.1 then some X.1 else (if X.1 = X.1 ∧ 3 = 3 then some (S.2.2.2.1 m) else _)) = _
        rw [if_neg (by omega), if_pos ⟨rfl, rfl⟩]
    · rw [if_neg z, if_neg z]
      obtain ⟨m1, m2, m3, m4, m5⟩ := l4 j (by omega)
      have := m2.1
      exact ⟨(rf 16 j (by omega) (fun y => z y.2)).trans m1, at_ m2, m3, (rf (S.2.2.1 j) 3 (by omega) (by omega)).trans m4, m5⟩
  · have hj1 : j < S.1 + 1 := hj
    have hj2 : j' < S.1 + 1 := hj'
    have e' : (if j = S.1 then X.1 else S.2.2.1 j) = (if j' = S.1 then X.1 else S.2.2.1 j') := e
    by_cases z : j = S.1
    · by_cases z' : j' = S.1
      · omega
      · rw [if_pos z, if_neg z'] at e'
        have := (l4 j' (by omega)).2.1.1
        omega
    · by_cases z' : j' = S.1
      · rw [if_neg z, if_pos z'] at e'
        have := (l4 j (by omega)).2.1.1
        omega
      · rw [if_neg z, if_neg z'] at e'
        exact l6 j j' (by omega) (by omega) e'
theorem inv_H (h : Inv N S X) {b c d m : Nat} (hn : S.1 < 40) (hm : m < S.2.1) (hb : b < N 0) (hc1 : 1 ≤ c) (hc : c ≤ 20) (hd : d ≤ 31) : Inv N (sH S X.1 m) (hmR (hmX X S.1 (nI b) (nI c) (nI d) (S.2.2.2.1 m)) S.1 (nI b) (nI c) (nI d) (nI m)) := by
  have hL := h.lay
  have l0 : 114 ≤ X.1 := hL.1
  have lay : Lay (sH S X.1 m) (hmR (hmX X S.1 (nI b) (nI c) (nI d) (S.2.2.2.1 m)) S.1 (nI b) (nI c) (nI d) (nI m)) := ly_sI (ly_sI (ly_sI (ly_sI (ly_sI (ly_sI (ly_sI (ly_sI (ly_sI (lay_H hL hn hm _ _ _)))))))))
  have rd : ∀ z k, gI (hmR (hmX X S.1 (nI b) (nI c) (nI d) (S.2.2.2.1 m)) S.1 (nI b) (nI c) (nI d) (nI m)) z k = if z = 55 ∧ k = 19 then nI S.1 + 1 else if z = 77 ∧ k = S.1 then -1 else if z = 76 ∧ k = S.1 then -1 else if z = 75 ∧ k = S.1 then -1 else if z = 74 ∧ k = S.1 then 0 else if z = 73 ∧ k = S.1 then nI m else if z = 72 ∧ k = S.1 then nI d else if z = 71 ∧ k = S.1 then nI c else if z = 70 ∧ k = S.1 then nI b else if z = 0 ∧ k = 6 then nI (S.1 + 1) else gI (mkH (gp_nw X (3, 0)) X.1 (nI b) (nI c) (nI d) (S.2.2.2.1 m)) z k := fun z k => rfl
  generalize eX2 : hmR (hmX X S.1 (nI b) (nI c) (nI d) (S.2.2.2.1 m)) S.1 (nI b) (nI c) (nI d) (nI m) = X2 at lay rd
  have hb1 : ∀ j, j < S.1 → S.2.2.1 j ≠ X.1 := fun j hj => by
    have := (hL.2.2.2.2.1 j hj).2.1.1
    omega
  have hb2 : ∀ j, j < S.2.1 → S.2.2.2.1 j ≠ X.1 := fun j hj => by
    have := (hL.2.2.2.1 j hj).2.1.1
    omega
  have lo : ∀ z k, z ≠ X.1 → ¬ (z = 55 ∧ k = 19) → ¬ (z = 0 ∧ k = 6) → ¬ ((70 ≤ z ∧ z ≤ 77) ∧ k = S.1) → gI X2 z k = gI X z k := fun z k z1 z2 z3 z4 => by
    rw [rd, if_neg z2, if_neg (by omega), if_neg (by omega), if_neg (by omega), if_neg (by omega), if_neg (by omega), if_neg (by omega), if_neg (by omega), if_neg (by omega), if_neg z3, mh_at, if_neg (by omega), if_neg (by omega), if_neg (by omega), if_neg (by omega), if_neg (by omega), if_neg (by omega), if_neg (by omega), nw_i z1]
  have h0 := inv_big h l0 hb1 hb2 (gI X2 X.1)
  have hx := X_w (f := gI X2) [(0, 6), (55, 19), (70, 0), (71, 0), (72, 0), (73, 0), (74, 0), (75, 0), (76, 0), (77, 0)] false (X_0 h0) (fun z k ho _ => by
    have d0 : z ≠ 70 := off_ne ho (70, 0)
    have d1 : z ≠ 71 := off_ne ho (71, 0)
    have d2 : z ≠ 72 := off_ne ho (72, 0)
    have d3 : z ≠ 73 := off_ne ho (73, 0)
    have d4 : z ≠ 74 := off_ne ho (74, 0)
    have d5 : z ≠ 75 := off_ne ho (75, 0)
    have d6 : z ≠ 76 := off_ne ho (76, 0)
    have d7 : z ≠ 77 := off_ne ho (77, 0)
    show _ = (if z = X.1 then gI X2 X.1 k else gI X z k)
    by_cases q : z = X.1
    · rw [if_pos q, q]
    · rw [if_neg q]
      exact lo z k q (off_sl ho (55, 19)) (off_sl ho (0, 6)) (by omega))
  have f78 : gI X 78 S.1 = 0 := h.flt.2 S.1 (Nat.le_refl _)
  have r78 : ∀ j, gI X2 78 j = gI X 78 j := fun j => lo 78 j (by omega) (by omega) (by omega) (by omega)
  have o : ∀ k, gI X2 X.1 k = gI (mkH (gp_nw X (3, 0)) X.1 (nI b) (nI c) (nI d) (S.2.2.2.1 m)) X.1 k := fun k => by
    rw [rd, if_neg (by omega), if_neg (by omega), if_neg (by omega), if_neg (by omega), if_neg (by omega), if_neg (by omega), if_neg (by omega), if_neg (by omega), if_neg (by omega), if_neg (by omega)]
  refine ⟨lay, (hx.2.1 rfl), (hx.2.2.1 rfl), (hx.2.2.2.1 rfl), (hx.2.2.2.2.1 rfl), ?_, ?_, ?_, (hx.2.2.2.2.2.2.2.2.1 rfl), (hx.2.2.2.2.2.2.2.2.2.1 rfl), (hx.2.2.2.2.2.2.2.2.2.2.1 rfl), (hx.2.2.2.2.2.2.2.2.2.2.2.1 rfl), (hx.2.2.2.2.2.2.2.2.2.2.2.2.1 rfl), (hx.2.2.2.2.2.2.2.2.2.2.2.2.2.1 rfl), (hx.2.2.2.2.2.2.2.2.2.2.2.2.2.2.1 rfl), (hx.2.2.2.2.2.2.2.2.2.2.2.2.2.2.2.1 rfl), (hx.2.2.2.2.2.2.2.2.2.2.2.2.2.2.2.2.1 rfl), (hx.2.2.2.2.2.2.2.2.2.2.2.2.2.2.2.2.2.1 rfl), (hx.2.2.2.2.2.2.2.2.2.2.2.2.2.2.2.2.2.2.1 rfl), (hx.2.2.2.2.2.2.2.2.2.2.2.2.2.2.2.2.2.2.2.1 rfl), (hx.2.2.2.2.2.2.2.2.2.2.2.2.2.2.2.2.2.2.2.2.1 rfl), (hx.2.2.2.2.2.2.2.2.2.2.2.2.2.2.2.2.2.2.2.2.2 rfl)⟩
  · refine ⟨⟨?_, ?_⟩, fun j hj => ?_⟩
    · rw [rd, if_neg (by omega), if_neg (by omega), if_neg (by omega), if_neg (by omega), if_neg (by omega), if_neg (by omega), if_neg (by omega), if_neg (by omega), if_neg (by omega), if_pos ⟨rfl, rfl⟩]; rfl
    · rw [rd, if_pos ⟨rfl, rfl⟩]; exact nI_s _
    · have hj' : j < S.1 + 1 := hj
      show (gI X2 (if j = S.1 then X.1 else S.2.2.1 j) 0 = gI X2 70 j ∧ gI X2 (if j = S.1 then X.1 else S.2.2.1 j) 1 = gI X2 71 j ∧ gI X2 (if j = S.1 then X.1 else S.2.2.1 j) 2 = gI X2 72 j ∧ gI X2 73 j = nI (if j = S.1 then m else S.2.2.2.2.2 j) ∧ gI X2 (if j = S.1 then X.1 else S.2.2.1 j) 4 = gI X2 74 j ∧ gI X2 (if j = S.1 then X.1 else S.2.2.1 j) 5 = gI X2 75 j ∧ gI X2 (if j = S.1 then X.1 else S.2.2.1 j) 6 = gI X2 76 j ∧ gI X2 (if j = S.1 then X.1 else S.2.2.1 j) 7 = gI X2 77 j ∧ gI X2 (if j = S.1 then X.1 else S.2.2.1 j) 8 = gI X2 78 j) ∧ (∃ a b c, a < N 0 ∧ gI X2 70 j = nI a ∧ 1 ≤ b ∧ b ≤ 20 ∧ gI X2 71 j = nI b ∧ c ≤ 31 ∧ gI X2 72 j = nI c) ∧ (gI X2 74 j = 0 ∨ gI X2 74 j = 1 ∨ gI X2 74 j = 2) ∧ is01 (gI X2 78 j) ∧ (gI X2 78 j = 1 → gI X2 74 j = 1)
      by_cases z : j = S.1
      · rw [if_pos z, if_pos z]
        have r70 : gI X2 70 j = nI b := by rw [rd, if_neg (by omega), if_neg (by omega), if_neg (by omega), if_neg (by omega), if_neg (by omega), if_neg (by omega), if_neg (by omega), if_neg (by omega), if_pos ⟨rfl, z⟩]
        have r71 : gI X2 71 j = nI c := by rw [rd, if_neg (by omega), if_neg (by omega), if_neg (by omega), if_neg (by omega), if_neg (by omega), if_neg (by omega), if_neg (by omega), if_pos ⟨rfl, z⟩]
        have r72 : gI X2 72 j = nI d := by rw [rd, if_neg (by omega), if_neg (by omega), if_neg (by omega), if_neg (by omega), if_neg (by omega), if_neg (by omega), if_pos ⟨rfl, z⟩]
        have r73 : gI X2 73 j = nI m := by rw [rd, if_neg (by omega), if_neg (by omega), if_neg (by omega), if_neg (by omega), if_neg (by omega), if_pos ⟨rfl, z⟩]
        have r74 : gI X2 74 j = 0 := by rw [rd, if_neg (by omega), if_neg (by omega), if_neg (by omega), if_neg (by omega), if_pos ⟨rfl, z⟩]
        have r75 : gI X2 75 j = -1 := by rw [rd, if_neg (by omega), if_neg (by omega), if_neg (by omega), if_pos ⟨rfl, z⟩]
        have r76 : gI X2 76 j = -1 := by rw [rd, if_neg (by omega), if_neg (by omega), if_pos ⟨rfl, z⟩]
        have r77 : gI X2 77 j = -1 := by rw [rd, if_neg (by omega), if_pos ⟨rfl, z⟩]
        have r8 : gI X2 78 j = 0 := by rw [r78, z]; exact f78
        rw [r70, r71, r72, r73, r74, r75, r76, r77, r8, o, o, o, o, o, o, o, o, mh_at, mh_at, mh_at, mh_at, mh_at, mh_at, mh_at, mh_at]
        refine ⟨⟨?_, ?_, ?_, rfl, ?_, ?_, ?_, ?_, ?_⟩, ⟨b, c, d, hb, rfl, hc1, hc, rfl, hd, rfl⟩, Or.inl rfl, Or.inl rfl, fun y => absurd y (by decide)⟩
        · rw [if_neg (by omega), if_neg (by omega), if_pos ⟨rfl, rfl⟩]
        · rw [if_neg (by omega), if_pos ⟨rfl, rfl⟩]
        · rw [if_pos ⟨rfl, rfl⟩]
        · rw [if_neg (by omega), if_neg (by omega), if_neg (by omega), if_neg (by omega), if_neg (by omega), if_neg (by omega), if_pos ⟨rfl, rfl⟩]
        · rw [if_neg (by omega), if_neg (by omega), if_neg (by omega), if_neg (by omega), if_neg (by omega), if_pos ⟨rfl, rfl⟩]
        · rw [if_neg (by omega), if_neg (by omega), if_neg (by omega), if_neg (by omega), if_pos ⟨rfl, rfl⟩]
        · rw [if_neg (by omega), if_neg (by omega), if_neg (by omega), if_pos ⟨rfl, rfl⟩]
        · rw [if_neg (by omega), if_neg (by omega), if_neg (by omega), if_neg (by omega), if_neg (by omega), if_neg (by omega), if_neg (by omega), nw_0]
      · rw [if_neg z, if_neg z]
        have hj2 : j < S.1 := by omega
        have n1 := hb1 j hj2
        have n2 := hm_big hL hj2
        have L0 : ∀ k, gI X2 (S.2.2.1 j) k = gI X (S.2.2.1 j) k := fun k => lo _ k n1 (by omega) (by omega) (by omega)
        have L1 : ∀ r, 70 ≤ r → r ≤ 78 → gI X2 r j = gI X r j := fun r q1 q2 => lo r j (by omega) (by omega) (by omega) (by omega)
        rw [L0, L0, L0, L0, L0, L0, L0, L0, L1 70 (by omega) (by omega), L1 71 (by omega) (by omega), L1 72 (by omega) (by omega), L1 73 (by omega) (by omega), L1 74 (by omega) (by omega), L1 75 (by omega) (by omega), L1 76 (by omega) (by omega), L1 77 (by omega) (by omega), L1 78 (by omega) (by omega)]
        exact h.hom.2 j hj2
  · obtain ⟨q1, q2⟩ := h.flt
    have e78 : gI X2 78 = gI X 78 := funext r78
    refine ⟨?_, fun j hj => ?_⟩
    · show gI X2 55 56 = sm (gI X2 78) (S.1 + 1)
      rw [e78, sm_0 f78, lo 55 56 (by omega) (by omega) (by omega) (by omega)]
      exact q1
    · rw [r78]; exact q2 j (Nat.le_of_succ_le hj)
  · have q : I_sur N S X2 := hx.2.2.2.2.2.2.2.1 rfl
    obtain ⟨a1, a2, a3⟩ := q
    refine ⟨a1, fun j hj => ?_, fun j hj => ?_⟩
    · obtain ⟨b1, ⟨t, b2, b2'⟩, b3, b4⟩ := a2 j hj
      exact ⟨b1, ⟨t, Nat.lt_succ_of_lt b2, b2'⟩, b3, b4⟩
    · have hj' : j < S.1 + 1 := hj
      show gI X2 (if j = S.1 then X.1 else S.2.2.1 j) 9 = nI (lastF (gI X2 79) j (N 5))
      by_cases z : j = S.1
      · rw [if_pos z, o, mh_at, if_neg (by omega), if_neg (by omega), if_neg (by omega), if_neg (by omega), if_neg (by omega), if_neg (by omega), if_neg (by omega), nw_0]
        have : lastF (gI X2 79) j (N 5) = 0 := by
          cases q : lastF (gI X2 79) j (N 5) with
          | zero => rfl
          | succ t =>
            obtain ⟨w1, w2⟩ := lastF_at _ _ _ _ q
            obtain ⟨-, ⟨t', b2, b2', -⟩, -⟩ := a2 t w2
            have w3 : nI t' = nI j := b2'.symm.trans w1
            have := (nI_eq (by omega) (by omega)).mp w3
            omega
        rw [this]; rfl
      · rw [if_neg z]
        exact a3 j (by omega)
end HOM
theorem p_home {E : gp_E} {N : Nat → Nat} {S : gp_S} {X : gp_H} (h : Inv N S X) (x1 x2 x3 x4 : Int32) : Ev E m_ga_home 0 [(0, .ref 0), (1, .int x1), (2, .int x2), (3, .int x3), (4, .int x4)] [] X (0, 0) (gp_two E m_mo_home [(0, .ref 55), (1, .int x1), (2, .int x2), (3, .int x3), (4, .int x4)]) := by
  have hL := h.lay
  have l := l40 hL
  have l2 := l12 hL
  obtain ⟨k1, k2⟩ := h.hom.1
  have hn := h.net.1
  have R := fun {S' : gp_S} {Y : gp_H} (lY : Lay S' Y) (g0 : gI Y 55 0 = gI X 55 0) (g1 : gI Y 55 13 = gI X 55 13) (g2 : gI Y 55 19 = gI X 55 19) {Q} => show _ from by
    have := b_mo_home_0 (E := E) (x1 := x1) (x2 := x2) (x3 := x3) (x4 := x4) (Q := Q) lY
    rw [g0, g1, g2, hn.2.1, h.mod.1.2, k2] at this
    exact this
  refine b_ga_home_0 hL (wh_model h (fun m hm e => ?_) (fun c4 => ?_))
  · subst e
    have c4 := iw_of hm (show S.2.1 ≤ 100000 by omega)
    rw [hn.1, k1]
    refine ⟨fun c1 => ⟨_, S, rfl, hL, R hL rfl rfl rfl ⟨fun _ => ⟨rfl, N, h⟩, fun z => bnf c1 z⟩⟩, fun c1 => ⟨fun c => ⟨_, S, rfl, hL, R hL rfl rfl rfl ⟨fun z => bne c1 z, fun _ => ⟨fun _ => ⟨fun _ => ⟨rfl, N, h⟩, fun z => bnf c z⟩, fun z => bne c4 z⟩⟩⟩, fun c2 => ⟨fun c3 => ⟨fun c6 => ?_, fun c6 => ⟨_, S, rfl, hL, R hL rfl rfl rfl ⟨fun z => bne c1 z, fun _ => ⟨fun _ => ⟨fun z => bne c2 z, fun _ => ⟨fun _ => ⟨fun z => ?_, fun _ => ⟨rfl, N, h⟩⟩, fun z => bne c3 z⟩⟩, fun z => bne c4 z⟩⟩⟩⟩, fun c => ⟨_, S, rfl, hL, R hL rfl rfl rfl ⟨fun z => bne c1 z, fun _ => ⟨fun _ => ⟨fun z => bne c2 z, fun _ => ⟨fun z => bnf c z, fun _ => ⟨rfl, N, h⟩⟩⟩, fun z => bne c4 z⟩⟩⟩⟩⟩⟩
    · have hs : S.1 < 40 := (nI_lt_lit (k := 40) rfl (by omega) (by omega)).mp c6
      obtain ⟨b, hb, rfl⟩ := iw_nI (by omega) c1
      obtain ⟨c, hc1, hc, rfl⟩ := iw_r (lo := 1) (hi := 20) c2 (by decide) (by decide)
      obtain ⟨d, -, hd, rfl⟩ := iw_r (lo := 0) (hi := 31) c3 (by decide) (by decide)
      have lH := lay_H hL hs hm (nI b) (nI c) (nI d)
      have l0 := hL.1
      have e55 : ∀ k, gI (hmX X S.1 (nI b) (nI c) (nI d) (S.2.2.2.1 m)) 55 k = gI X 55 k := fun k => by
        show (if 55 = 0 ∧ k = 6 then nI (S.1 + 1) else gI (mkH (gp_nw X (3, 0)) X.1 (nI b) (nI c) (nI d) (S.2.2.2.1 m)) 55 k) = _
        rw [if_neg (by omega), mh_at, if_neg (by omega), if_neg (by omega), if_neg (by omega), if_neg (by omega), if_neg (by omega), if_neg (by omega), if_neg (by omega), nw_i (by omega)]
      refine s_home61 hL hs k1 _ _ _ _ ⟨_, sH S X.1 m, rfl, lH, R lH (e55 0) (e55 13) (e55 19) ⟨fun z => bne c1 z, fun _ => ⟨fun _ => ⟨fun z => bne c2 z, fun _ => ⟨fun _ => ⟨fun _ => ⟨vin hs (by omega), ?_⟩, fun z => absurd ((nI_eq_lit (k := 40) rfl (by omega) (by omega)).mp z) (by omega)⟩, fun z => bne c3 z⟩⟩, fun z => bne c4 z⟩⟩⟩
      rw [nI_add_sub, nI_c (k := S.1) (by omega)]
      exact ⟨rfl, N, inv_H h hs hm hb hc1 hc hd⟩
    · have hs : ¬ S.1 < 40 := fun y => c6 ((nI_lt_lit (k := 40) rfl (by omega) (by omega)).mpr y)
      exact absurd ((nI_eq_lit (n := S.1) (k := 40) rfl (by omega) (by omega)).mpr (by omega)) z
  · rw [hn.1]
    exact ⟨fun c1 => ⟨_, S, rfl, hL, R hL rfl rfl rfl ⟨fun _ => ⟨rfl, N, h⟩, fun z => bnf c1 z⟩⟩, fun c1 => ⟨_, S, rfl, hL, R hL rfl rfl rfl ⟨fun z => bne c1 z, fun _ => ⟨fun z => bnf c4 z, fun _ => ⟨rfl, N, h⟩⟩⟩⟩⟩
