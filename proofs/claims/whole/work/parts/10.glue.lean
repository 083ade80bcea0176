/-- the kinds of the cells that there are from the start on, and their references -/
def ly_K : List (Nat × Nat) := [(11, 0), (5, 0), (13, 20), (13, 20), (14, 20), (14, 20), (13, 12), (13, 12), (13, 5), (13, 5), (13, 5), (14, 5), (13, 4), (10, 0), (13, 20), (16, 12), (17, 40), (13, 301), (13, 301), (13, 5), (13, 30), (13, 30), (13, 30), (8, 0), (13, 7), (13, 7), (13, 7), (13, 12), (13, 128), (13, 128), (13, 128), (0, 0), (13, 8), (13, 8), (13, 8), (13, 8), (13, 30), (13, 30), (13, 30), (13, 30), (4, 0), (13, 60), (14, 10), (13, 10), (13, 10), (13, 10), (13, 10), (13, 3), (9, 0), (13, 3), (13, 3), (18, 3), (13, 40), (13, 40), (13, 40), (12, 0), (13, 20), (13, 20), (14, 20), (14, 20), (13, 5), (13, 5), (13, 5), (14, 5), (13, 4), (13, 12), (13, 12), (13, 12), (13, 12), (13, 12), (13, 40), (13, 40), (13, 40), (13, 40), (13, 40), (13, 40), (13, 40), (13, 40), (14, 40), (13, 300), (13, 300), (13, 5), (13, 30), (13, 30), (13, 30), (13, 7), (14, 7), (13, 7), (13, 7), (13, 8), (13, 8), (13, 8), (13, 8), (13, 30), (13, 30), (13, 30), (13, 30), (13, 10), (13, 10), (13, 10), (13, 10), (14, 10), (13, 60), (13, 20), (13, 3), (13, 3), (13, 120), (13, 128), (14, 5), (15, 1681), (13, 24), (13, 25), (13, 4), (13, 40)]
def ly_R : List (List (Option Nat)) := [[some 1, some 12, some 13, some 15, none, some 16, none, some 17, some 18, none, some 19, some 20, some 21, some 22, none, some 23, none, some 31, some 40, some 48], [none, none, some 2, some 3, some 4, some 5, some 6, some 7, none, none, some 8, some 9, some 10, some 11], [], [], [], [], [], [], [], [], [], [], [], [some 14], [], [], [], [], [], [], [], [], [], [some 1, none, some 24, none, none, some 25, none, some 26, some 27, some 28, some 29, some 30], [], [], [], [], [], [], [], [none, some 32, some 33, some 34, some 35, none, some 36, some 37, some 38, some 39], [], [], [], [], [], [], [], [], [none, some 41, none, some 42, some 43, some 44, some 45, some 46, some 47], [], [], [], [], [], [], [], [some 49, some 50, some 51], [], [], [some 52, some 53, some 54], [], [], [], [none, none, some 56, some 57, some 58, some 59, none, some 60, some 61, some 62, some 63, none, some 64, none, some 65, some 66, some 67, some 68, some 69, none, some 70, some 71, some 72, some 73, some 74, some 75, some 76, some 77, some 78, none, some 79, some 80, some 81, none, some 82, some 83, some 84, none, some 85, some 86, none, some 87, none, some 88, none, none, some 89, some 90, some 91, some 92, none, some 93, some 94, some 95, some 96, none, none, none, some 97, some 98, some 99, some 100, some 101, some 102, none, none, some 103, some 104, some 105, some 106, some 107, some 108, some 109, none, none, some 110, some 111, some 112, some 113], [], [], [], [], [], [], [], [], [], [], [], [], [], [], [], [], [], [], [], [], [], [], [], [], [], [], [], [], [], [], [], [], [], [], [], [], [], [], [], [], [], [], [], [], [], [], [], [], [], [], [], [], [], [], [], [], [], []]
def ly_k (i : Nat) : Nat × Nat := ly_K.getD i (0, 0)
def ly_r (i k : Nat) : Option Nat := (ly_R.getD i []).getD k none
/-- how many homes and models, the cells of each, the kind of a model, the model of a home -/
abbrev gp_S : Type := Nat × Nat × (Nat → Nat) × (Nat → Nat) × (Nat → Nat) × (Nat → Nat)
def Lay (S : gp_S) (X : gp_H) : Prop :=
  114 ≤ X.1 ∧ (∀ i, i < 114 → X.2.1 i = ly_k i) ∧ (∀ i, i < 114 → i ≠ 15 → i ≠ 16 → ∀ k, X.2.2.1 i k = ly_r i k) ∧
  (∀ j, j < S.2.1 → X.2.2.1 15 j = some (S.2.2.2.1 j) ∧ gp_at X (S.2.2.2.1 j) (S.2.2.2.2.1 j, 0) ∧ 114 ≤ S.2.2.2.1 j ∧ X.2.2.1 (S.2.2.2.1 j) 0 = some 13 ∧ (S.2.2.2.2.1 j < 13 ∧ gp_gid (S.2.2.2.2.1 j) = 7)) ∧
  (∀ j, j < S.1 → X.2.2.1 16 j = some (S.2.2.1 j) ∧ gp_at X (S.2.2.1 j) (3, 0) ∧ 114 ≤ S.2.2.1 j ∧ X.2.2.1 (S.2.2.1 j) 3 = some (S.2.2.2.1 (S.2.2.2.2.2 j)) ∧ S.2.2.2.2.2 j < S.2.1) ∧
  (∀ i j, i < S.2.1 → j < S.2.1 → S.2.2.2.1 i = S.2.2.2.1 j → i = j) ∧ (∀ i j, i < S.1 → j < S.1 → S.2.2.1 i = S.2.2.1 j → i = j) ∧ S.2.1 ≤ 12 ∧ S.1 ≤ 40
abbrev gI (X : gp_H) (a k : Nat) : Int32 := X.2.2.2.1 a k
abbrev gL (X : gp_H) (a k : Nat) : Int64 := X.2.2.2.2 a k
/-- all numbers are others -/
def gp_wI (X : gp_H) (f : Nat → Nat → Int32) : gp_H := (X.1, X.2.1, X.2.2.1, f, X.2.2.2.2)
theorem ly_at {S : gp_S} {X : gp_H} (h : Lay S X) (i : Nat) (hi : Nat.blt i 114 = true) : gp_at X i (ly_k i) := by
  have : i < 114 := Nat.le_of_ble_eq_true hi
  exact ⟨Nat.lt_of_lt_of_le this h.1, h.2.1 i this⟩
theorem ly_rf {S : gp_S} {X : gp_H} (h : Lay S X) (i k : Nat) (hi : (Nat.blt i 114 && !(i == 15) && !(i == 16)) = true) : X.2.2.1 i k = ly_r i k := by
  rw [Bool.and_eq_true, Bool.and_eq_true, Bool.not_eq_true', Bool.not_eq_true', beq_eq_false_iff_ne, beq_eq_false_iff_ne] at hi
  exact h.2.2.1 i (Nat.le_of_ble_eq_true hi.1.1) hi.1.2 hi.2 k
theorem ly_sI {S : gp_S} {X : gp_H} {a k : Nat} {v : Int32} (h : Lay S X) : Lay S (gp_sI X a k v) := h
theorem ly_sL {S : gp_S} {X : gp_H} {a k : Nat} {v : Int64} (h : Lay S X) : Lay S (gp_sL X a k v) := h
theorem ly_wI {S : gp_S} {X : gp_H} {f : Nat → Nat → Int32} (h : Lay S X) : Lay S (gp_wI X f) := h
theorem at_sI {X : gp_H} {a k i : Nat} {v : Int32} {q : Nat × Nat} (h : gp_at X i q) : gp_at (gp_sI X a k v) i q := h
theorem at_sL {X : gp_H} {a k i : Nat} {v : Int64} {q : Nat × Nat} (h : gp_at X i q) : gp_at (gp_sL X a k v) i q := h
theorem at_wI {X : gp_H} {f : Nat → Nat → Int32} {i : Nat} {q : Nat × Nat} (h : gp_at X i q) : gp_at (gp_wI X f) i q := h
/-- a truth as a number -/
def bz (b : Bool) : Int32 := if b then 1 else 0
theorem bz_t : bz true = 1 := rfl
theorem bz_f : bz false = 0 := rfl
theorem bz_0 {b : Bool} : bz b = 0 ↔ b = false := by cases b <;> decide
theorem nb_0 : narrow .boolean (.int 0) = .int 0 := by decide
theorem nb_1 : narrow .boolean (.int 1) = .int 1 := by decide
theorem fb_0 : fits .boolean (.int 0) = true := by decide
theorem fb_1 : fits .boolean (.int 1) = true := by decide
theorem nb_bz (b : Bool) : narrow .boolean (.int (bz b)) = .int (bz b) := by cases b <;> decide
theorem fb_bz (b : Bool) : fits .boolean (.int (bz b)) = true := by cases b <;> decide
/-- an answer and a heap -/
def gp_q (v : Option Value) (Z : gp_H) : Option Value → gp_H → Prop := fun r X' => v = r ∧ Z = X'
theorem gp_tab {lo : Int} {n : Nat} (x : Int32) : (x.toInt < lo ∨ lo + (n : Int) ≤ x.toInt) ∨ ∃ k : Nat, k < n ∧ x.toInt = lo + (k : Int) := by
  by_cases h : x.toInt < lo ∨ lo + (n : Int) ≤ x.toInt
  · exact Or.inl h
  · refine Or.inr ⟨(x.toInt - lo).toNat, ?_, ?_⟩ <;> omega
theorem gp_eqi {x w : Int32} {v : Int} (h : x.toInt = v) (hw : w.toInt = v) : x = w := Int32.toInt_inj.mp (h.trans hw.symm)
section EVX
variable {E : gp_E} {y : gp_M} {pc : Nat} {L : List (Nat × Value)} {st rest : List Value} {X : gp_H} {u : Nat × Nat} {Q : Option Value → gp_H → Prop}
theorem ev_ifz_eq {B : Bool} {off : Int} {tgt : Nat} (hd : decode y.2.1 pc = .ok (.ifCond .eq off, 3)) (ht : (pc : Int) + off = (tgt : Int)) (kt : B = false → Ev E y tgt L st X u Q) (kf : B = true → Ev E y (pc + 3) L st X u Q) : Ev E y pc L (.int (bz B) :: st) X u Q :=
  ev_if_eq hd ht (fun h => kt (bz_0.mp h)) (fun h => kf (by cases B; exact absurd rfl h; rfl))
theorem ev_ifz_ne {B : Bool} {off : Int} {tgt : Nat} (hd : decode y.2.1 pc = .ok (.ifCond .ne off, 3)) (ht : (pc : Int) + off = (tgt : Int)) (kt : B = true → Ev E y tgt L st X u Q) (kf : B = false → Ev E y (pc + 3) L st X u Q) : Ev E y pc L (.int (bz B) :: st) X u Q :=
  ev_if_ne hd ht (fun h => kt (by cases B; exact absurd rfl h; rfl)) (fun h => kf (bz_0.mp h))

theorem x_max : Cond.static Lib.Math.max.name ∈ lw_g ∧ Cond.code Lib.Math.max.name Lib.Math.max.code 2 (some .int) ∈ lw_g ∧ Cond.initialized "java/lang/Math" ∈ lw_g := ⟨lw_g_of (lw_t3 (List.mem_of_getElem? (i := 206) (by decide +kernel))) rfl, lw_g_of (lw_t3 (List.mem_of_getElem? (i := 207) (by decide +kernel))) rfl, lw_g_of (lw_t1 (List.mem_of_getElem? (i := 16) (by decide +kernel))) rfl⟩
theorem ev_mmax {idx : Nat} {x z : Int32} (hd : decode y.2.1 pc = .ok (.invokestatic idx, 3)) (hw : Cond.methodLink y.1.cls idx Lib.Math.max.name ∈ lw_g) (hR : 1 ≤ y.2.2.2.2.frames ∧ (rest.map fun v => v.category).sum + 13 ≤ y.2.2.2.2.locals) (hu : u.1 ≤ y.2.2.2.2.cells ∧ u.2 ≤ y.2.2.2.2.slots) (kk : Ev E y (pc + 3) L (.int (if x < z then z else x) :: rest) X u Q) : Ev E y pc L (.int z :: .int x :: rest) X u Q := by
  intro G p e s m args below meth c H locs ls Z hG hF hH hl
  have hts := hG.2.2.2.2.2.1
  have e0 : (rest.map (gp_v G)).map (fun v => v.category) = rest.map fun v => v.category := by
    rw [List.map_map]
    exact List.map_congr_left (fun v _ => gp_v_cat G v)
  exact va_mmax hG.1 hG.2.1 (by rw [hG.2.2.1]; exact hl.1.symm) hG.2.2.2.2.1 (hts _ hw) (hts _ x_max.1) (hts _ x_max.2.2) (hts _ x_max.2.1) hR.1 (by rw [e0]; exact hR.2) hu.1 hu.2 hd (kk G p e s m args below meth c H locs ls Z hG hF hH hl)
theorem x_min : Cond.static Lib.Math.min.name ∈ lw_g ∧ Cond.code Lib.Math.min.name Lib.Math.min.code 2 (some .int) ∈ lw_g ∧ Cond.initialized "java/lang/Math" ∈ lw_g := ⟨lw_g_of (lw_t3 (List.mem_of_getElem? (i := 203) (by decide +kernel))) rfl, lw_g_of (lw_t3 (List.mem_of_getElem? (i := 204) (by decide +kernel))) rfl, lw_g_of (lw_t1 (List.mem_of_getElem? (i := 16) (by decide +kernel))) rfl⟩
theorem ev_mmin {idx : Nat} {x z : Int32} (hd : decode y.2.1 pc = .ok (.invokestatic idx, 3)) (hw : Cond.methodLink y.1.cls idx Lib.Math.min.name ∈ lw_g) (hR : 1 ≤ y.2.2.2.2.frames ∧ (rest.map fun v => v.category).sum + 13 ≤ y.2.2.2.2.locals) (hu : u.1 ≤ y.2.2.2.2.cells ∧ u.2 ≤ y.2.2.2.2.slots) (kk : Ev E y (pc + 3) L (.int (if z < x then z else x) :: rest) X u Q) : Ev E y pc L (.int z :: .int x :: rest) X u Q := by
  intro G p e s m args below meth c H locs ls Z hG hF hH hl
  have hts := hG.2.2.2.2.2.1
  have e0 : (rest.map (gp_v G)).map (fun v => v.category) = rest.map fun v => v.category := by
    rw [List.map_map]
    exact List.map_congr_left (fun v _ => gp_v_cat G v)
  exact va_mmin hG.1 hG.2.1 (by rw [hG.2.2.1]; exact hl.1.symm) hG.2.2.2.2.1 (hts _ hw) (hts _ x_min.1) (hts _ x_min.2.2) (hts _ x_min.2.1) hR.1 (by rw [e0]; exact hR.2) hu.1 hu.2 hd (kk G p e s m args below meth c H locs ls Z hG hF hH hl)
end EVX
theorem gg_0 : 0 < 13 ∧ gp_gid 0 = 0 := ⟨by decide, rfl⟩
theorem lt13_0 : 0 < 13 := by decide
theorem gg_1 : 1 < 13 ∧ gp_gid 1 = 7 := ⟨by decide, rfl⟩
theorem lt13_1 : 1 < 13 := by decide
theorem gg_2 : 2 < 13 ∧ gp_gid 2 = 7 := ⟨by decide, rfl⟩
theorem lt13_2 : 2 < 13 := by decide
theorem gg_3 : 3 < 13 ∧ gp_gid 3 = 3 := ⟨by decide, rfl⟩
theorem lt13_3 : 3 < 13 := by decide
theorem gg_4 : 4 < 13 ∧ gp_gid 4 = 4 := ⟨by decide, rfl⟩
theorem lt13_4 : 4 < 13 := by decide
theorem gg_5 : 5 < 13 ∧ gp_gid 5 = 5 := ⟨by decide, rfl⟩
theorem lt13_5 : 5 < 13 := by decide
theorem gg_6 : 6 < 13 ∧ gp_gid 6 = 7 := ⟨by decide, rfl⟩
theorem lt13_6 : 6 < 13 := by decide
theorem gg_7 : 7 < 13 ∧ gp_gid 7 = 7 := ⟨by decide, rfl⟩
theorem lt13_7 : 7 < 13 := by decide
theorem gg_8 : 8 < 13 ∧ gp_gid 8 = 8 := ⟨by decide, rfl⟩
theorem lt13_8 : 8 < 13 := by decide
theorem gg_9 : 9 < 13 ∧ gp_gid 9 = 9 := ⟨by decide, rfl⟩
theorem lt13_9 : 9 < 13 := by decide
theorem gg_10 : 10 < 13 ∧ gp_gid 10 = 10 := ⟨by decide, rfl⟩
theorem lt13_10 : 10 < 13 := by decide
theorem gg_11 : 11 < 13 ∧ gp_gid 11 = 11 := ⟨by decide, rfl⟩
theorem lt13_11 : 11 < 13 := by decide
theorem gg_12 : 12 < 13 ∧ gp_gid 12 = 12 := ⟨by decide, rfl⟩
theorem lt13_12 : 12 < 13 := by decide
theorem kc_b_10 : (Int8.ofInt (10)).toInt32 = 10 := by decide
theorem kc_b_100 : (Int8.ofInt (100)).toInt32 = 100 := by decide
theorem kc_b_101 : (Int8.ofInt (101)).toInt32 = 101 := by decide
theorem kc_b_102 : (Int8.ofInt (102)).toInt32 = 102 := by decide
theorem kc_b_107 : (Int8.ofInt (107)).toInt32 = 107 := by decide
theorem kc_b_108 : (Int8.ofInt (108)).toInt32 = 108 := by decide
theorem kc_b_109 : (Int8.ofInt (109)).toInt32 = 109 := by decide
theorem kc_b_11 : (Int8.ofInt (11)).toInt32 = 11 := by decide
theorem kc_b_111 : (Int8.ofInt (111)).toInt32 = 111 := by decide
theorem kc_b_112 : (Int8.ofInt (112)).toInt32 = 112 := by decide
theorem kc_b_114 : (Int8.ofInt (114)).toInt32 = 114 := by decide
theorem kc_b_115 : (Int8.ofInt (115)).toInt32 = 115 := by decide
theorem kc_b_116 : (Int8.ofInt (116)).toInt32 = 116 := by decide
theorem kc_b_119 : (Int8.ofInt (119)).toInt32 = 119 := by decide
theorem kc_b_12 : (Int8.ofInt (12)).toInt32 = 12 := by decide
theorem kc_b_120 : (Int8.ofInt (120)).toInt32 = 120 := by decide
theorem kc_b_121 : (Int8.ofInt (121)).toInt32 = 121 := by decide
theorem kc_b_13 : (Int8.ofInt (13)).toInt32 = 13 := by decide
theorem kc_b_14 : (Int8.ofInt (14)).toInt32 = 14 := by decide
theorem kc_b_15 : (Int8.ofInt (15)).toInt32 = 15 := by decide
theorem kc_b_16 : (Int8.ofInt (16)).toInt32 = 16 := by decide
theorem kc_b_17 : (Int8.ofInt (17)).toInt32 = 17 := by decide
theorem kc_b_18 : (Int8.ofInt (18)).toInt32 = 18 := by decide
theorem kc_b_19 : (Int8.ofInt (19)).toInt32 = 19 := by decide
theorem kc_b_20 : (Int8.ofInt (20)).toInt32 = 20 := by decide
theorem kc_b_21 : (Int8.ofInt (21)).toInt32 = 21 := by decide
theorem kc_b_22 : (Int8.ofInt (22)).toInt32 = 22 := by decide
theorem kc_b_23 : (Int8.ofInt (23)).toInt32 = 23 := by decide
theorem kc_b_24 : (Int8.ofInt (24)).toInt32 = 24 := by decide
theorem kc_b_25 : (Int8.ofInt (25)).toInt32 = 25 := by decide
theorem kc_b_30 : (Int8.ofInt (30)).toInt32 = 30 := by decide
theorem kc_b_31 : (Int8.ofInt (31)).toInt32 = 31 := by decide
theorem kc_b_32 : (Int8.ofInt (32)).toInt32 = 32 := by decide
theorem kc_b_40 : (Int8.ofInt (40)).toInt32 = 40 := by decide
theorem kc_b_41 : (Int8.ofInt (41)).toInt32 = 41 := by decide
theorem kc_b_48 : (Int8.ofInt (48)).toInt32 = 48 := by decide
theorem kc_b_57 : (Int8.ofInt (57)).toInt32 = 57 := by decide
theorem kc_b_6 : (Int8.ofInt (6)).toInt32 = 6 := by decide
theorem kc_b_60 : (Int8.ofInt (60)).toInt32 = 60 := by decide
theorem kc_b_63 : (Int8.ofInt (63)).toInt32 = 63 := by decide
theorem kc_b_7 : (Int8.ofInt (7)).toInt32 = 7 := by decide
theorem kc_b_8 : (Int8.ofInt (8)).toInt32 = 8 := by decide
theorem kc_b_80 : (Int8.ofInt (80)).toInt32 = 80 := by decide
theorem kc_b_9 : (Int8.ofInt (9)).toInt32 = 9 := by decide
theorem kc_b_97 : (Int8.ofInt (97)).toInt32 = 97 := by decide
theorem kc_b_98 : (Int8.ofInt (98)).toInt32 = 98 := by decide
theorem kc_b_99 : (Int8.ofInt (99)).toInt32 = 99 := by decide
theorem kc_b_m10 : (Int8.ofInt (-10)).toInt32 = (-10) := by decide
theorem kc_b_m11 : (Int8.ofInt (-11)).toInt32 = (-11) := by decide
theorem kc_b_m12 : (Int8.ofInt (-12)).toInt32 = (-12) := by decide
theorem kc_b_m13 : (Int8.ofInt (-13)).toInt32 = (-13) := by decide
theorem kc_b_m14 : (Int8.ofInt (-14)).toInt32 = (-14) := by decide
theorem kc_b_m2 : (Int8.ofInt (-2)).toInt32 = (-2) := by decide
theorem kc_b_m3 : (Int8.ofInt (-3)).toInt32 = (-3) := by decide
theorem kc_b_m4 : (Int8.ofInt (-4)).toInt32 = (-4) := by decide
theorem kc_b_m5 : (Int8.ofInt (-5)).toInt32 = (-5) := by decide
theorem kc_i_0 : Int32.ofInt (0) = 0 := by decide
theorem kc_i_1 : Int32.ofInt (1) = 1 := by decide
theorem kc_i_2 : Int32.ofInt (2) = 2 := by decide
theorem kc_i_3 : Int32.ofInt (3) = 3 := by decide
theorem kc_i_4 : Int32.ofInt (4) = 4 := by decide
theorem kc_i_5 : Int32.ofInt (5) = 5 := by decide
theorem kc_i_6 : Int32.ofInt (6) = 6 := by decide
theorem kc_i_m1 : Int32.ofInt (-1) = (-1) := by decide
theorem kc_s_128 : (Int16.ofInt (128)).toInt32 = 128 := by decide
theorem kc_s_150 : (Int16.ofInt (150)).toInt32 = 150 := by decide
theorem kc_s_1681 : (Int16.ofInt (1681)).toInt32 = 1681 := by decide
theorem kc_s_200 : (Int16.ofInt (200)).toInt32 = 200 := by decide
theorem kc_s_255 : (Int16.ofInt (255)).toInt32 = 255 := by decide
theorem kc_s_300 : (Int16.ofInt (300)).toInt32 = 300 := by decide
theorem kc_s_301 : (Int16.ofInt (301)).toInt32 = 301 := by decide
theorem kc_s_500 : (Int16.ofInt (500)).toInt32 = 500 := by decide
theorem kc_s_5000 : (Int16.ofInt (5000)).toInt32 = 5000 := by decide
theorem kc_s_999 : (Int16.ofInt (999)).toInt32 = 999 := by decide
theorem kc_s_9999 : (Int16.ofInt (9999)).toInt32 = 9999 := by decide
theorem kc_s_m9999 : (Int16.ofInt (-9999)).toInt32 = (-9999) := by decide
