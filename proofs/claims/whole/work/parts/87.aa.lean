theorem I_net_sI {N : Nat → Nat} {X : gp_H} {a k : Nat} {v : Int32} (hr : a ≠ 2 ∧ a ≠ 3 ∧ a ≠ 4 ∧ a ≠ 5 ∧ a ≠ 56 ∧ a ≠ 57 ∧ a ≠ 58 ∧ a ≠ 59 ∧ a ≠ 6 ∧ a ≠ 7 ∧ ¬ (a = 1 ∧ k = 0) ∧ ¬ (a = 55 ∧ k = 0) ∧ ¬ (a = 1 ∧ k = 1) ∧ ¬ (a = 55 ∧ k = 1) ∧ ¬ (a = 1 ∧ k = 8) ∧ ¬ (a = 55 ∧ k = 11)) (h : I_net N X) : I_net N (gp_sI X a k v) := by
  have r2 : gI (gp_sI X a k v) 2 = gI X 2 := funext fun j => if_neg (fun q => by omega)
  have p2 : ∀ j, gI (gp_sI X a k v) 2 j = gI X 2 j := fun j => if_neg (fun q => by omega)
  have r3 : gI (gp_sI X a k v) 3 = gI X 3 := funext fun j => if_neg (fun q => by omega)
  have p3 : ∀ j, gI (gp_sI X a k v) 3 j = gI X 3 j := fun j => if_neg (fun q => by omega)
  have r4 : gI (gp_sI X a k v) 4 = gI X 4 := funext fun j => if_neg (fun q => by omega)
  have p4 : ∀ j, gI (gp_sI X a k v) 4 j = gI X 4 j := fun j => if_neg (fun q => by omega)
  have r5 : gI (gp_sI X a k v) 5 = gI X 5 := funext fun j => if_neg (fun q => by omega)
  have p5 : ∀ j, gI (gp_sI X a k v) 5 j = gI X 5 j := fun j => if_neg (fun q => by omega)
  have r56 : gI (gp_sI X a k v) 56 = gI X 56 := funext fun j => if_neg (fun q => by omega)
  have p56 : ∀ j, gI (gp_sI X a k v) 56 j = gI X 56 j := fun j => if_neg (fun q => by omega)
  have r57 : gI (gp_sI X a k v) 57 = gI X 57 := funext fun j => if_neg (fun q => by omega)
  have p57 : ∀ j, gI (gp_sI X a k v) 57 j = gI X 57 j := fun j => if_neg (fun q => by omega)
  have r58 : gI (gp_sI X a k v) 58 = gI X 58 := funext fun j => if_neg (fun q => by omega)
  have p58 : ∀ j, gI (gp_sI X a k v) 58 j = gI X 58 j := fun j => if_neg (fun q => by omega)
  have r59 : gI (gp_sI X a k v) 59 = gI X 59 := funext fun j => if_neg (fun q => by omega)
  have p59 : ∀ j, gI (gp_sI X a k v) 59 j = gI X 59 j := fun j => if_neg (fun q => by omega)
  have r6 : gI (gp_sI X a k v) 6 = gI X 6 := funext fun j => if_neg (fun q => by omega)
  have p6 : ∀ j, gI (gp_sI X a k v) 6 j = gI X 6 j := fun j => if_neg (fun q => by omega)
  have r7 : gI (gp_sI X a k v) 7 = gI X 7 := funext fun j => if_neg (fun q => by omega)
  have p7 : ∀ j, gI (gp_sI X a k v) 7 j = gI X 7 j := fun j => if_neg (fun q => by omega)
  have s1_0 : gI (gp_sI X a k v) 1 0 = gI X 1 0 := if_neg (fun q => by omega)
  have s55_0 : gI (gp_sI X a k v) 55 0 = gI X 55 0 := if_neg (fun q => by omega)
  have s1_1 : gI (gp_sI X a k v) 1 1 = gI X 1 1 := if_neg (fun q => by omega)
  have s55_1 : gI (gp_sI X a k v) 55 1 = gI X 55 1 := if_neg (fun q => by omega)
  have s1_8 : gI (gp_sI X a k v) 1 8 = gI X 1 8 := if_neg (fun q => by omega)
  have s55_11 : gI (gp_sI X a k v) 55 11 = gI X 55 11 := if_neg (fun q => by omega)
  unfold I_net at h ⊢
  simp only [r2, p2, r3, p3, r4, p4, r5, p5, r56, p56, r57, p57, r58, p58, r59, p59, r6, p6, r7, p7, s1_0, s55_0, s1_1, s55_1, s1_8, s55_11]
  exact h
theorem I_wrk_sI {N : Nat → Nat} {X : gp_H} {a k : Nat} {v : Int32} (hr : a ≠ 8 ∧ a ≠ 9 ∧ a ≠ 10 ∧ a ≠ 11 ∧ a ≠ 60 ∧ a ≠ 61 ∧ a ≠ 62 ∧ a ≠ 63 ∧ ¬ (a = 1 ∧ k = 9) ∧ ¬ (a = 55 ∧ k = 6)) (h : I_wrk N X) : I_wrk N (gp_sI X a k v) := by
  have r8 : gI (gp_sI X a k v) 8 = gI X 8 := funext fun j => if_neg (fun q => by omega)
  have p8 : ∀ j, gI (gp_sI X a k v) 8 j = gI X 8 j := fun j => if_neg (fun q => by omega)
  have r9 : gI (gp_sI X a k v) 9 = gI X 9 := funext fun j => if_neg (fun q => by omega)
  have p9 : ∀ j, gI (gp_sI X a k v) 9 j = gI X 9 j := fun j => if_neg (fun q => by omega)
  have r10 : gI (gp_sI X a k v) 10 = gI X 10 := funext fun j => if_neg (fun q => by omega)
  have p10 : ∀ j, gI (gp_sI X a k v) 10 j = gI X 10 j := fun j => if_neg (fun q => by omega)
  have r11 : gI (gp_sI X a k v) 11 = gI X 11 := funext fun j => if_neg (fun q => by omega)
  have p11 : ∀ j, gI (gp_sI X a k v) 11 j = gI X 11 j := fun j => if_neg (fun q => by omega)
  have r60 : gI (gp_sI X a k v) 60 = gI X 60 := funext fun j => if_neg (fun q => by omega)
  have p60 : ∀ j, gI (gp_sI X a k v) 60 j = gI X 60 j := fun j => if_neg (fun q => by omega)
  have r61 : gI (gp_sI X a k v) 61 = gI X 61 := funext fun j => if_neg (fun q => by omega)
  have p61 : ∀ j, gI (gp_sI X a k v) 61 j = gI X 61 j := fun j => if_neg (fun q => by omega)
  have r62 : gI (gp_sI X a k v) 62 = gI X 62 := funext fun j => if_neg (fun q => by omega)
  have p62 : ∀ j, gI (gp_sI X a k v) 62 j = gI X 62 j := fun j => if_neg (fun q => by omega)
  have r63 : gI (gp_sI X a k v) 63 = gI X 63 := funext fun j => if_neg (fun q => by omega)
  have p63 : ∀ j, gI (gp_sI X a k v) 63 j = gI X 63 j := fun j => if_neg (fun q => by omega)
  have s1_9 : gI (gp_sI X a k v) 1 9 = gI X 1 9 := if_neg (fun q => by omega)
  have s55_6 : gI (gp_sI X a k v) 55 6 = gI X 55 6 := if_neg (fun q => by omega)
  unfold I_wrk at h ⊢
  simp only [r8, p8, r9, p9, r10, p10, r11, p11, r60, p60, r61, p61, r62, p62, r63, p63, s1_9, s55_6]
  exact h
theorem I_stp_sI {X : gp_H} {a k : Nat} {v : Int32} (hr : a ≠ 12 ∧ a ≠ 64) (h : I_stp X) : I_stp (gp_sI X a k v) := by
  have r12 : gI (gp_sI X a k v) 12 = gI X 12 := funext fun j => if_neg (fun q => by omega)
  have p12 : ∀ j, gI (gp_sI X a k v) 12 j = gI X 12 j := fun j => if_neg (fun q => by omega)
  have r64 : gI (gp_sI X a k v) 64 = gI X 64 := funext fun j => if_neg (fun q => by omega)
  have p64 : ∀ j, gI (gp_sI X a k v) 64 j = gI X 64 j := fun j => if_neg (fun q => by omega)
  unfold I_stp at h ⊢
  simp only [r12, p12, r64, p64]
  exact h
theorem I_flt_sI {S : gp_S} {X : gp_H} {a k : Nat} {v : Int32} (hr : a ≠ 78 ∧ ¬ (a = 55 ∧ k = 56)) (h : I_flt S X) : I_flt S (gp_sI X a k v) := by
  have r78 : gI (gp_sI X a k v) 78 = gI X 78 := funext fun j => if_neg (fun q => by omega)
  have p78 : ∀ j, gI (gp_sI X a k v) 78 j = gI X 78 j := fun j => if_neg (fun q => by omega)
  have s55_56 : gI (gp_sI X a k v) 55 56 = gI X 55 56 := if_neg (fun q => by omega)
  unfold I_flt at h ⊢
  simp only [r78, p78, s55_56]
  exact h
theorem I_stk_sI {X : gp_H} {a k : Nat} {v : Int32} (hr : a ≠ 19 ∧ a ≠ 81) (h : I_stk X) : I_stk (gp_sI X a k v) := by
  have r19 : gI (gp_sI X a k v) 19 = gI X 19 := funext fun j => if_neg (fun q => by omega)
  have p19 : ∀ j, gI (gp_sI X a k v) 19 j = gI X 19 j := fun j => if_neg (fun q => by omega)
  have r81 : gI (gp_sI X a k v) 81 = gI X 81 := funext fun j => if_neg (fun q => by omega)
  have p81 : ∀ j, gI (gp_sI X a k v) 81 j = gI X 81 j := fun j => if_neg (fun q => by omega)
  unfold I_stk at h ⊢
  simp only [r19, p19, r81, p81]
  exact h
theorem I_ord_sI {N : Nat → Nat} {X : gp_H} {a k : Nat} {v : Int32} (hr : a ≠ 20 ∧ a ≠ 21 ∧ a ≠ 22 ∧ a ≠ 82 ∧ a ≠ 83 ∧ a ≠ 84 ∧ ¬ (a = 0 ∧ k = 14) ∧ ¬ (a = 55 ∧ k = 33)) (h : I_ord N X) : I_ord N (gp_sI X a k v) := by
  have r20 : gI (gp_sI X a k v) 20 = gI X 20 := funext fun j => if_neg (fun q => by omega)
  have p20 : ∀ j, gI (gp_sI X a k v) 20 j = gI X 20 j := fun j => if_neg (fun q => by omega)
  have r21 : gI (gp_sI X a k v) 21 = gI X 21 := funext fun j => if_neg (fun q => by omega)
  have p21 : ∀ j, gI (gp_sI X a k v) 21 j = gI X 21 j := fun j => if_neg (fun q => by omega)
  have r22 : gI (gp_sI X a k v) 22 = gI X 22 := funext fun j => if_neg (fun q => by omega)
  have p22 : ∀ j, gI (gp_sI X a k v) 22 j = gI X 22 j := fun j => if_neg (fun q => by omega)
  have r82 : gI (gp_sI X a k v) 82 = gI X 82 := funext fun j => if_neg (fun q => by omega)
  have p82 : ∀ j, gI (gp_sI X a k v) 82 j = gI X 82 j := fun j => if_neg (fun q => by omega)
  have r83 : gI (gp_sI X a k v) 83 = gI X 83 := funext fun j => if_neg (fun q => by omega)
  have p83 : ∀ j, gI (gp_sI X a k v) 83 j = gI X 83 j := fun j => if_neg (fun q => by omega)
  have r84 : gI (gp_sI X a k v) 84 = gI X 84 := funext fun j => if_neg (fun q => by omega)
  have p84 : ∀ j, gI (gp_sI X a k v) 84 j = gI X 84 j := fun j => if_neg (fun q => by omega)
  have s0_14 : gI (gp_sI X a k v) 0 14 = gI X 0 14 := if_neg (fun q => by omega)
  have s55_33 : gI (gp_sI X a k v) 55 33 = gI X 55 33 := if_neg (fun q => by omega)
  unfold I_ord at h ⊢
  simp only [r20, p20, r21, p21, r22, p22, r82, p82, r83, p83, r84, p84, s0_14, s55_33]
  exact h
theorem I_sec_sI {N : Nat → Nat} {X : gp_H} {a k : Nat} {v : Int32} (hr : a ≠ 24 ∧ a ≠ 85 ∧ a ≠ 86 ∧ ¬ (a = 23 ∧ k = 1) ∧ ¬ (a = 55 ∧ k = 37) ∧ ¬ (a = 23 ∧ k = 3)) (h : I_sec N X) : I_sec N (gp_sI X a k v) := by
  have r24 : gI (gp_sI X a k v) 24 = gI X 24 := funext fun j => if_neg (fun q => by omega)
  have p24 : ∀ j, gI (gp_sI X a k v) 24 j = gI X 24 j := fun j => if_neg (fun q => by omega)
  have r85 : gI (gp_sI X a k v) 85 = gI X 85 := funext fun j => if_neg (fun q => by omega)
  have p85 : ∀ j, gI (gp_sI X a k v) 85 j = gI X 85 j := fun j => if_neg (fun q => by omega)
  have r86 : gI (gp_sI X a k v) 86 = gI X 86 := funext fun j => if_neg (fun q => by omega)
  have p86 : ∀ j, gI (gp_sI X a k v) 86 j = gI X 86 j := fun j => if_neg (fun q => by omega)
  have s23_1 : gI (gp_sI X a k v) 23 1 = gI X 23 1 := if_neg (fun q => by omega)
  have s55_37 : gI (gp_sI X a k v) 55 37 = gI X 55 37 := if_neg (fun q => by omega)
  have s23_3 : gI (gp_sI X a k v) 23 3 = gI X 23 3 := if_neg (fun q => by omega)
  unfold I_sec at h ⊢
  simp only [r24, p24, r85, p85, r86, p86, s23_1, s55_37, s23_3]
  exact h
theorem I_pln_sI {N : Nat → Nat} {X : gp_H} {a k : Nat} {v : Int32} (hr : a ≠ 25 ∧ a ≠ 87 ∧ a ≠ 86 ∧ ¬ (a = 23 ∧ k = 4) ∧ ¬ (a = 55 ∧ k = 40)) (h : I_pln N X) : I_pln N (gp_sI X a k v) := by
  have r25 : gI (gp_sI X a k v) 25 = gI X 25 := funext fun j => if_neg (fun q => by omega)
  have p25 : ∀ j, gI (gp_sI X a k v) 25 j = gI X 25 j := fun j => if_neg (fun q => by omega)
  have r87 : gI (gp_sI X a k v) 87 = gI X 87 := funext fun j => if_neg (fun q => by omega)
  have p87 : ∀ j, gI (gp_sI X a k v) 87 j = gI X 87 j := fun j => if_neg (fun q => by omega)
  have r86 : gI (gp_sI X a k v) 86 = gI X 86 := funext fun j => if_neg (fun q => by omega)
  have p86 : ∀ j, gI (gp_sI X a k v) 86 j = gI X 86 j := fun j => if_neg (fun q => by omega)
  have s23_4 : gI (gp_sI X a k v) 23 4 = gI X 23 4 := if_neg (fun q => by omega)
  have s55_40 : gI (gp_sI X a k v) 55 40 = gI X 55 40 := if_neg (fun q => by omega)
  unfold I_pln at h ⊢
  simp only [r25, p25, r87, p87, r86, p86, s23_4, s55_40]
  exact h
theorem I_row_sI {N : Nat → Nat} {X : gp_H} {a k : Nat} {v : Int32} (hr : a ≠ 26 ∧ a ≠ 88 ∧ ¬ (a = 23 ∧ k = 6) ∧ ¬ (a = 55 ∧ k = 42)) (h : I_row N X) : I_row N (gp_sI X a k v) := by
  have r26 : gI (gp_sI X a k v) 26 = gI X 26 := funext fun j => if_neg (fun q => by omega)
  have p26 : ∀ j, gI (gp_sI X a k v) 26 j = gI X 26 j := fun j => if_neg (fun q => by omega)
  have r88 : gI (gp_sI X a k v) 88 = gI X 88 := funext fun j => if_neg (fun q => by omega)
  have p88 : ∀ j, gI (gp_sI X a k v) 88 j = gI X 88 j := fun j => if_neg (fun q => by omega)
  have s23_6 : gI (gp_sI X a k v) 23 6 = gI X 23 6 := if_neg (fun q => by omega)
  have s55_42 : gI (gp_sI X a k v) 55 42 = gI X 55 42 := if_neg (fun q => by omega)
  unfold I_row at h ⊢
  simp only [r26, p26, r88, p88, s23_6, s55_42]
  exact h
theorem I_wek_sI {N : Nat → Nat} {X : gp_H} {a k : Nat} {v : Int32} (hr : ¬ (a = 0 ∧ k = 16) ∧ ¬ (a = 55 ∧ k = 44)) (h : I_wek N X) : I_wek N (gp_sI X a k v) := by
  have s0_16 : gI (gp_sI X a k v) 0 16 = gI X 0 16 := if_neg (fun q => by omega)
  have s55_44 : gI (gp_sI X a k v) 55 44 = gI X 55 44 := if_neg (fun q => by omega)
  unfold I_wek at h ⊢
  simp only [s0_16, s55_44]
  exact h
theorem I_fit_sI {N : Nat → Nat} {X : gp_H} {a k : Nat} {v : Int32} (hr : a ≠ 32 ∧ a ≠ 33 ∧ a ≠ 34 ∧ a ≠ 35 ∧ a ≠ 89 ∧ a ≠ 90 ∧ a ≠ 91 ∧ a ≠ 92 ∧ ¬ (a = 31 ∧ k = 0) ∧ ¬ (a = 55 ∧ k = 45)) (h : I_fit N X) : I_fit N (gp_sI X a k v) := by
  have r32 : gI (gp_sI X a k v) 32 = gI X 32 := funext fun j => if_neg (fun q => by omega)
  have p32 : ∀ j, gI (gp_sI X a k v) 32 j = gI X 32 j := fun j => if_neg (fun q => by omega)
  have r33 : gI (gp_sI X a k v) 33 = gI X 33 := funext fun j => if_neg (fun q => by omega)
  have p33 : ∀ j, gI (gp_sI X a k v) 33 j = gI X 33 j := fun j => if_neg (fun q => by omega)
  have r34 : gI (gp_sI X a k v) 34 = gI X 34 := funext fun j => if_neg (fun q => by omega)
  have p34 : ∀ j, gI (gp_sI X a k v) 34 j = gI X 34 j := fun j => if_neg (fun q => by omega)
  have r35 : gI (gp_sI X a k v) 35 = gI X 35 := funext fun j => if_neg (fun q => by omega)
  have p35 : ∀ j, gI (gp_sI X a k v) 35 j = gI X 35 j := fun j => if_neg (fun q => by omega)
  have r89 : gI (gp_sI X a k v) 89 = gI X 89 := funext fun j => if_neg (fun q => by omega)
  have p89 : ∀ j, gI (gp_sI X a k v) 89 j = gI X 89 j := fun j => if_neg (fun q => by omega)
  have r90 : gI (gp_sI X a k v) 90 = gI X 90 := funext fun j => if_neg (fun q => by omega)
  have p90 : ∀ j, gI (gp_sI X a k v) 90 j = gI X 90 j := fun j => if_neg (fun q => by omega)
  have r91 : gI (gp_sI X a k v) 91 = gI X 91 := funext fun j => if_neg (fun q => by omega)
  have p91 : ∀ j, gI (gp_sI X a k v) 91 j = gI X 91 j := fun j => if_neg (fun q => by omega)
  have r92 : gI (gp_sI X a k v) 92 = gI X 92 := funext fun j => if_neg (fun q => by omega)
  have p92 : ∀ j, gI (gp_sI X a k v) 92 j = gI X 92 j := fun j => if_neg (fun q => by omega)
  have s31_0 : gI (gp_sI X a k v) 31 0 = gI X 31 0 := if_neg (fun q => by omega)
  have s55_45 : gI (gp_sI X a k v) 55 45 = gI X 55 45 := if_neg (fun q => by omega)
  unfold I_fit at h ⊢
  simp only [r32, p32, r33, p33, r34, p34, r35, p35, r89, p89, r90, p90, r91, p91, r92, p92, s31_0, s55_45]
  exact h
theorem I_sml_sI {N : Nat → Nat} {X : gp_H} {a k : Nat} {v : Int32} (hr : a ≠ 36 ∧ a ≠ 37 ∧ a ≠ 38 ∧ a ≠ 39 ∧ a ≠ 93 ∧ a ≠ 94 ∧ a ≠ 95 ∧ a ≠ 96 ∧ ¬ (a = 31 ∧ k = 5) ∧ ¬ (a = 55 ∧ k = 50)) (h : I_sml N X) : I_sml N (gp_sI X a k v) := by
  have r36 : gI (gp_sI X a k v) 36 = gI X 36 := funext fun j => if_neg (fun q => by omega)
  have p36 : ∀ j, gI (gp_sI X a k v) 36 j = gI X 36 j := fun j => if_neg (fun q => by omega)
  have r37 : gI (gp_sI X a k v) 37 = gI X 37 := funext fun j => if_neg (fun q => by omega)
  have p37 : ∀ j, gI (gp_sI X a k v) 37 j = gI X 37 j := fun j => if_neg (fun q => by omega)
  have r38 : gI (gp_sI X a k v) 38 = gI X 38 := funext fun j => if_neg (fun q => by omega)
  have p38 : ∀ j, gI (gp_sI X a k v) 38 j = gI X 38 j := fun j => if_neg (fun q => by omega)
  have r39 : gI (gp_sI X a k v) 39 = gI X 39 := funext fun j => if_neg (fun q => by omega)
  have p39 : ∀ j, gI (gp_sI X a k v) 39 j = gI X 39 j := fun j => if_neg (fun q => by omega)
  have r93 : gI (gp_sI X a k v) 93 = gI X 93 := funext fun j => if_neg (fun q => by omega)
  have p93 : ∀ j, gI (gp_sI X a k v) 93 j = gI X 93 j := fun j => if_neg (fun q => by omega)
  have r94 : gI (gp_sI X a k v) 94 = gI X 94 := funext fun j => if_neg (fun q => by omega)
  have p94 : ∀ j, gI (gp_sI X a k v) 94 j = gI X 94 j := fun j => if_neg (fun q => by omega)
  have r95 : gI (gp_sI X a k v) 95 = gI X 95 := funext fun j => if_neg (fun q => by omega)
  have p95 : ∀ j, gI (gp_sI X a k v) 95 j = gI X 95 j := fun j => if_neg (fun q => by omega)
  have r96 : gI (gp_sI X a k v) 96 = gI X 96 := funext fun j => if_neg (fun q => by omega)
  have p96 : ∀ j, gI (gp_sI X a k v) 96 j = gI X 96 j := fun j => if_neg (fun q => by omega)
  have s31_5 : gI (gp_sI X a k v) 31 5 = gI X 31 5 := if_neg (fun q => by omega)
  have s55_50 : gI (gp_sI X a k v) 55 50 = gI X 55 50 := if_neg (fun q => by omega)
  unfold I_sml at h ⊢
  simp only [r36, p36, r37, p37, r38, p38, r39, p39, r93, p93, r94, p94, r95, p95, r96, p96, s31_5, s55_50]
  exact h
theorem I_lim_sI {X : gp_H} {a k : Nat} {v : Int32} (hr : ¬ (a = 31 ∧ k = 10) ∧ ¬ (a = 55 ∧ k = 55)) (h : I_lim X) : I_lim (gp_sI X a k v) := by
  have s31_10 : gI (gp_sI X a k v) 31 10 = gI X 31 10 := if_neg (fun q => by omega)
  have s55_55 : gI (gp_sI X a k v) 55 55 = gI X 55 55 := if_neg (fun q => by omega)
  unfold I_lim at h ⊢
  simp only [s31_10, s55_55]
  exact h
theorem I_law_sI {N : Nat → Nat} {X : gp_H} {a k : Nat} {v : Int32} (hr : a ≠ 42 ∧ a ≠ 43 ∧ a ≠ 44 ∧ a ≠ 45 ∧ a ≠ 46 ∧ a ≠ 97 ∧ a ≠ 98 ∧ a ≠ 99 ∧ a ≠ 100 ∧ a ≠ 101 ∧ ¬ (a = 40 ∧ k = 2) ∧ ¬ (a = 55 ∧ k = 57)) (h : I_law N X) : I_law N (gp_sI X a k v) := by
  have r42 : gI (gp_sI X a k v) 42 = gI X 42 := funext fun j => if_neg (fun q => by omega)
  have p42 : ∀ j, gI (gp_sI X a k v) 42 j = gI X 42 j := fun j => if_neg (fun q => by omega)
  have r43 : gI (gp_sI X a k v) 43 = gI X 43 := funext fun j => if_neg (fun q => by omega)
  have p43 : ∀ j, gI (gp_sI X a k v) 43 j = gI X 43 j := fun j => if_neg (fun q => by omega)
  have r44 : gI (gp_sI X a k v) 44 = gI X 44 := funext fun j => if_neg (fun q => by omega)
  have p44 : ∀ j, gI (gp_sI X a k v) 44 j = gI X 44 j := fun j => if_neg (fun q => by omega)
  have r45 : gI (gp_sI X a k v) 45 = gI X 45 := funext fun j => if_neg (fun q => by omega)
  have p45 : ∀ j, gI (gp_sI X a k v) 45 j = gI X 45 j := fun j => if_neg (fun q => by omega)
  have r46 : gI (gp_sI X a k v) 46 = gI X 46 := funext fun j => if_neg (fun q => by omega)
  have p46 : ∀ j, gI (gp_sI X a k v) 46 j = gI X 46 j := fun j => if_neg (fun q => by omega)
  have r97 : gI (gp_sI X a k v) 97 = gI X 97 := funext fun j => if_neg (fun q => by omega)
  have p97 : ∀ j, gI (gp_sI X a k v) 97 j = gI X 97 j := fun j => if_neg (fun q => by omega)
  have r98 : gI (gp_sI X a k v) 98 = gI X 98 := funext fun j => if_neg (fun q => by omega)
  have p98 : ∀ j, gI (gp_sI X a k v) 98 j = gI X 98 j := fun j => if_neg (fun q => by omega)
  have r99 : gI (gp_sI X a k v) 99 = gI X 99 := funext fun j => if_neg (fun q => by omega)
  have p99 : ∀ j, gI (gp_sI X a k v) 99 j = gI X 99 j := fun j => if_neg (fun q => by omega)
  have r100 : gI (gp_sI X a k v) 100 = gI X 100 := funext fun j => if_neg (fun q => by omega)
  have p100 : ∀ j, gI (gp_sI X a k v) 100 j = gI X 100 j := fun j => if_neg (fun q => by omega)
  have r101 : gI (gp_sI X a k v) 101 = gI X 101 := funext fun j => if_neg (fun q => by omega)
  have p101 : ∀ j, gI (gp_sI X a k v) 101 j = gI X 101 j := fun j => if_neg (fun q => by omega)
  have s40_2 : gI (gp_sI X a k v) 40 2 = gI X 40 2 := if_neg (fun q => by omega)
  have s55_57 : gI (gp_sI X a k v) 55 57 = gI X 55 57 := if_neg (fun q => by omega)
  unfold I_law at h ⊢
  simp only [r42, p42, r43, p43, r44, p44, r45, p45, r46, p46, r97, p97, r98, p98, r99, p99, r100, p100, r101, p101, s40_2, s55_57]
  exact h
theorem I_tap_sI {N : Nat → Nat} {X : gp_H} {a k : Nat} {v : Int32} (hr : a ≠ 41 ∧ a ≠ 102 ∧ ¬ (a = 40 ∧ k = 0) ∧ ¬ (a = 55 ∧ k = 64)) (h : I_tap N X) : I_tap N (gp_sI X a k v) := by
  have r41 : gI (gp_sI X a k v) 41 = gI X 41 := funext fun j => if_neg (fun q => by omega)
  have p41 : ∀ j, gI (gp_sI X a k v) 41 j = gI X 41 j := fun j => if_neg (fun q => by omega)
  have r102 : gI (gp_sI X a k v) 102 = gI X 102 := funext fun j => if_neg (fun q => by omega)
  have p102 : ∀ j, gI (gp_sI X a k v) 102 j = gI X 102 j := fun j => if_neg (fun q => by omega)
  have s40_0 : gI (gp_sI X a k v) 40 0 = gI X 40 0 := if_neg (fun q => by omega)
  have s55_64 : gI (gp_sI X a k v) 55 64 = gI X 55 64 := if_neg (fun q => by omega)
  unfold I_tap at h ⊢
  simp only [r41, p41, r102, p102, s40_0, s55_64]
  exact h
theorem I_trc_sI {X : gp_H} {a k : Nat} {v : Int32} (hr : a ≠ 14 ∧ a ≠ 103 ∧ ¬ (a = 13 ∧ k = 1) ∧ ¬ (a = 55 ∧ k = 65)) (h : I_trc X) : I_trc (gp_sI X a k v) := by
  have r14 : gI (gp_sI X a k v) 14 = gI X 14 := funext fun j => if_neg (fun q => by omega)
  have p14 : ∀ j, gI (gp_sI X a k v) 14 j = gI X 14 j := fun j => if_neg (fun q => by omega)
  have r103 : gI (gp_sI X a k v) 103 = gI X 103 := funext fun j => if_neg (fun q => by omega)
  have p103 : ∀ j, gI (gp_sI X a k v) 103 j = gI X 103 j := fun j => if_neg (fun q => by omega)
  have s13_1 : gI (gp_sI X a k v) 13 1 = gI X 13 1 := if_neg (fun q => by omega)
  have s55_65 : gI (gp_sI X a k v) 55 65 = gI X 55 65 := if_neg (fun q => by omega)
  unfold I_trc at h ⊢
  simp only [r14, p14, r103, p103, s13_1, s55_65]
  exact h
theorem I_txt_sI {X : gp_H} {a k : Nat} {v : Int32} (hr : a ≠ 110 ∧ a ≠ 111) (h : I_txt X) : I_txt (gp_sI X a k v) := by
  have r110 : gI (gp_sI X a k v) 110 = gI X 110 := funext fun j => if_neg (fun q => by omega)
  have p110 : ∀ j, gI (gp_sI X a k v) 110 j = gI X 110 j := fun j => if_neg (fun q => by omega)
  have r111 : gI (gp_sI X a k v) 111 = gI X 111 := funext fun j => if_neg (fun q => by omega)
  have p111 : ∀ j, gI (gp_sI X a k v) 111 j = gI X 111 j := fun j => if_neg (fun q => by omega)
  unfold I_txt at h ⊢
  simp only [r110, p110, r111, p111]
  exact h
