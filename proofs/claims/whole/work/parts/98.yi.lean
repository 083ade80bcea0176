section CHD
variable {E : gp_E} {N : Nat → Nat} {S : gp_S} {X Y : gp_H}
theorem tf_ne {j a k : Nat} {f d : Int32} (h : 114 ≤ (S.2.2.1 j)) (ha : a < 114) (h1 : a ≠ 19) (h2 : a ≠ 81) (h3 : a ≠ 74) (h4 : a ≠ 75) (h5 : a ≠ 76) (h6 : a ≠ 77) : gI (TF S X j f d) a k = gI X a k := by
  unfold TF
  simp only [gI_sI]
  rw [if_neg (by omega), if_neg (by omega), if_neg (by omega), if_neg (by omega), if_neg (by omega), if_neg (by omega), if_neg (by omega), if_neg (by omega), if_neg (by omega), if_neg (by omega)]
def ftC (st : Int32) (S : gp_S) (X : gp_H) (j f : Nat) (day left : Int32) : Prop := gI X 74 j = 0 ∧ gb st (gI X 70 j) = true ∧ gb (gI X 72 j) day = true ∧ gb (gI X 89 f) (gI X 69 (S.2.2.2.2.2 j)) = true ∧ ¬ left < gI X 68 (S.2.2.2.2.2 j) ∧ ¬ gI X 81 (tfJ S X j) < gI X 67 (S.2.2.2.2.2 j)
/-- a fitter's day -/
def ftL (st : Int32) (S : gp_S) (f : Nat) (day : Int32) : Nat → Nat → Int32 → Int32 → gp_H → gp_H × Int32
  | 0, _, _, cnt, X => (X, cnt)
  | d + 1, j, left, cnt, X => if gI X 74 j = 0 ∧ gb st (gI X 70 j) = true ∧ gb (gI X 72 j) day = true ∧ gb (gI X 89 f) (gI X 69 (S.2.2.2.2.2 j)) = true ∧ ¬ left < gI X 68 (S.2.2.2.2.2 j) ∧ ¬ gI X 81 (tfJ S X j) < gI X 67 (S.2.2.2.2.2 j) then ftL st S f day d (j + 1) (left - gI X 68 (S.2.2.2.2.2 j)) (cnt + 1) (TF S X j (nI f) day) else ftL st S f day d (j + 1) left cnt X
theorem ft_inv {st day : Int32} {f : Nat} : ∀ (d j : Nat) (left cnt : Int32) (X : gp_H), d + j = S.1 → Inv N S X → Inv N S (ftL st S f day d j left cnt X).1
  | 0, _, _, _, _, _, h => h
  | d + 1, j, left, cnt, X, e, h => by
    unfold ftL
    split
    · rename_i z
      exact ft_inv d (j + 1) _ _ _ (by omega) (tf_inv h (by omega) z.2.2.2.2.2)
    · exact ft_inv d (j + 1) _ _ X (by omega) h
theorem ft_85 {st day : Int32} {f k : Nat} : ∀ (d j : Nat) (left cnt : Int32) (X : gp_H), d + j = S.1 → Inv N S X → gI (ftL st S f day d j left cnt X).1 85 k = gI X 85 k
  | 0, _, _, _, _, _, h => rfl
  | d + 1, j, left, cnt, X, e, h => by
    unfold ftL
    split
    · rename_i z
      rw [ft_85 d (j + 1) _ _ _ (by omega) (tf_inv h (by omega) z.2.2.2.2.2)]
      exact tf_ne (hm_big h.lay (by omega)) (by decide) (by decide) (by decide) (by decide) (by decide) (by decide) (by decide)
    · exact ft_85 d (j + 1) _ _ X (by omega) h
theorem ft_c {st day : Int32} {f : Nat} (hf : f < 8) : ∀ (d j : Nat) (left cnt : Int32) (X Y : gp_H), d + j = S.1 → Inv N S X → Lay S Y → Cf X Y → Ev E m_ga_fitOnDay 17 [(0, .ref 0), (1, .int st), (2, .int day), (3, .int (nI f)), (4, .int left), (5, .int cnt), (6, .int (nI j))] [] Y (0, 0) (fun r Y' => r = some (.int (ftL st S f day d j left cnt X).2) ∧ Lay S Y' ∧ Rf Y Y' ∧ Cf (ftL st S f day d j left cnt X).1 Y')
  | 0, j, left, cnt, X, Y, e, h, lY, c => by
    obtain rfl : j = S.1 := by omega
    exact b_ga_fitOnDay_17 lY ⟨fun _ => ⟨rfl, lY, rf_0 Y, c⟩, fun z => absurd (by rw [c 0 6 rfl, h.hom.1.1]; exact Int32.le_refl _) z⟩
  | d + 1, j, left, cnt, X, Y, e, h, lY, c => by
    have l := l40 lY
    have hj : j < S.1 := by omega
    obtain ⟨⟨a0, a1, a2, a3, a4, -⟩, -⟩ := h.hom.2 j hj
    have lh := lY.2.2.2.2.1 j hj
    obtain ⟨q1, q2, q3, q4, -, q5⟩ := tf_mod h hj
    obtain ⟨r1, r2, r3⟩ := md_at lY q1
    obtain ⟨⟨m1, m2, m3, m4, m5, m6⟩, -⟩ := h.mod.2 _ q1
    have skip : ¬ ftC st S X j f day left → Ev E m_ga_fitOnDay 17 [(0, .ref 0), (1, .int st), (2, .int day), (3, .int (nI f)), (4, .int left), (5, .int cnt), (6, .int (nI (j + 1)))] [] Y (0, 0) (fun r Y' => r = some (.int (ftL st S f day (d + 1) j left cnt X).2) ∧ Lay S Y' ∧ Rf Y Y' ∧ Cf (ftL st S f day (d + 1) j left cnt X).1 Y') := fun z => by
      have : ftL st S f day (d + 1) j left cnt X = ftL st S f day d (j + 1) left cnt X := if_neg z
      rw [this]
      exact ft_c hf d (j + 1) left cnt X Y (by omega) h lY c
    refine b_ga_fitOnDay_17 lY ⟨fun z => absurd z (by rw [c 0 6 rfl, h.hom.1.1]; exact nI_nge hj (by omega)), fun _ => ⟨vin (by omega) (by omega), ?_⟩⟩
    rw [nI_c (k := j) (by omega), nI_s]
    refine ⟨_, lh.1, lh.2.1, ?_⟩
    rw [cf_hm c lY hj 4, cf_hm c lY hj 0, cf_hm c lY hj 2, a4, a0, a2]
    refine ⟨fun z => skip (fun y => z y.1), fun z1 => ⟨fun z => skip (fun y => bnf z y.2.1), fun z2 => ⟨fun z3 => ⟨_, _, lh.2.2.2.1, r2, r3, vin hf (by omega), ?_⟩, fun z => skip (fun y => bnf z y.2.2.1)⟩⟩⟩
    rw [nI_c (k := f) (by omega), c 32 _ rfl, cf_md c lY q1, (h.fit.2.1 f).1, m5]
    refine ⟨fun z4 => ⟨_, _, lh.2.2.2.1, r2, r3, ?_⟩, fun z => skip (fun y => bnf z y.2.2.2.1)⟩
    rw [cf_md c lY q1, m4]
    refine ⟨fun z => skip (fun y => y.2.2.2.2.1 z), fun z5 => ⟨_, _, lh.2.2.2.1, r2, r3, wh_i (s_hasJets h lY c hj) lY ⟨lh.2.1, fun z6 => ⟨_, _, lh.2.2.2.1, r2, r3, _, s_ga_fit h lY c hj _ _, fun r Y1 ⟨x1, x2, x3, x4⟩ => ⟨x1, x2, (hm_at x2 hj).2, ?_⟩⟩, fun z6 => skip (fun y => ?_)⟩⟩⟩
    · have z6' : ¬ gI X 81 (tfJ S X j) < gI X 67 (S.2.2.2.2.2 j) := fun z => by rw [if_pos z] at z6; exact absurd rfl z6
      have : ftL st S f day (d + 1) j left cnt X = ftL st S f day d (j + 1) (left - gI X 68 (S.2.2.2.2.2 j)) (cnt + 1) (TF S X j (nI f) day) := if_pos ⟨z1, z2, z3, z4, z5, z6'⟩
      rw [this, cf_md c lY q1, m4]
      exact ev_post (fun r Y' ⟨y1, y2, y3, y4⟩ => ⟨y1, y2, r_tr x3 y3, y4⟩) (ft_c hf d (j + 1) _ _ _ Y1 (by omega) (tf_inv h hj z6') x2 x4)
    · rw [if_neg y.2.2.2.2.2] at z6
      exact absurd z6 (by decide)
theorem ft_r {st day : Int32} {f s : Nat} (hf : f < 8) (hs : s < 7) : ∀ (d j : Nat) (left cnt : Int32) (X Y : gp_H), d + j = S.1 → Inv N S X → gI X 85 s = st → Lay S Y → Rf X Y → Ev E m_mo_fits 14 [(0, .ref 55), (1, .int (nI s)), (2, .int (nI f)), (3, .int day), (4, .int left), (5, .int cnt), (6, .int (nI j))] [] Y (0, 0) (fun r Y' => r = some (.int (ftL st S f day d j left cnt X).2) ∧ Lay S Y' ∧ Cf Y Y' ∧ Rf (ftL st S f day d j left cnt X).1 Y')
  | 0, j, left, cnt, X, Y, e, h, hst, lY, c => by
    obtain rfl : j = S.1 := by omega
    exact b_mo_fits_14 lY ⟨fun _ => ⟨rfl, lY, cf_0 Y, c⟩, fun z => absurd (by rw [c 55 19 rfl, h.hom.1.2]; exact Int32.le_refl _) z⟩
  | d + 1, j, left, cnt, X, Y, e, h, hst, lY, c => by
    have l := l40 lY
    have hj : j < S.1 := by omega
    obtain ⟨q1, q2, q3, q4, -, q5⟩ := tf_mod h hj
    have skip : ¬ ftC st S X j f day left → Ev E m_mo_fits 14 [(0, .ref 55), (1, .int (nI s)), (2, .int (nI f)), (3, .int day), (4, .int left), (5, .int cnt), (6, .int (nI (j + 1)))] [] Y (0, 0) (fun r Y' => r = some (.int (ftL st S f day (d + 1) j left cnt X).2) ∧ Lay S Y' ∧ Cf Y Y' ∧ Rf (ftL st S f day (d + 1) j left cnt X).1 Y') := fun z => by
      have : ftL st S f day (d + 1) j left cnt X = ftL st S f day d (j + 1) left cnt X := if_neg z
      rw [this]
      exact ft_r hf hs d (j + 1) left cnt X Y (by omega) h hst lY c
    have s70 : ¬ ftC st S X j f day left → Ev E m_mo_fits 70 [(0, .ref 55), (1, .int (nI s)), (2, .int (nI f)), (3, .int day), (4, .int left), (5, .int cnt), (6, .int (nI j))] [] Y (0, 0) (fun r Y' => r = some (.int (ftL st S f day (d + 1) j left cnt X).2) ∧ Lay S Y' ∧ Cf Y Y' ∧ Rf (ftL st S f day (d + 1) j left cnt X).1 Y') := fun z => by
      refine b_mo_fits_70 lY (b_mo_fits_71 lY ⟨fun _ => ?_, fun z => absurd rfl z⟩)
      rw [nI_s]; exact skip z
    refine b_mo_fits_14 lY ⟨fun z => absurd z (by rw [c 55 19 rfl, h.hom.1.2]; exact nI_nge hj (by omega)), fun _ => ⟨vin (by omega) (by omega), ?_⟩⟩
    rw [nI_c (k := j) (by omega), nI_c (k := s) (by omega), c 74 _ rfl, c 85 _ rfl, c 70 _ rfl, c 72 _ rfl, hst]
    refine ⟨fun z => s70 (fun y => z y.1), fun z1 => ⟨vin hs (by omega), fun z => s70 (fun y => bnf z y.2.1), fun z2 => ⟨fun z => s70 (fun y => bnf z y.2.2.1), fun z3 => ?_⟩⟩⟩
    refine b_mo_fits_71 lY ⟨fun z => absurd z (by decide), fun _ => wh_i (s_mo_canFit h lY c hj hf) lY ?_⟩
    rw [nI_s, nI_c (k := j) (by omega), c 73 _ rfl, q5, nI_c (k := (S.2.2.2.2.2 j)) (by omega), c 68 _ rfl]
    refine ⟨fun v0 => skip (fun y => ?_), fun v1 => ⟨vin (by omega) (by omega), vin (by omega) (by omega), fun z => skip (fun y => y.2.2.2.2.1 z), fun z5 => ⟨_, s_mo_changes h lY c hj _ _, fun r Y1 ⟨x1, x2, x3, x4⟩ => ⟨x1, x2, ?_⟩⟩⟩⟩
    · rw [if_pos ⟨y.2.2.2.1, y.2.2.2.2.2⟩] at v0
      exact absurd v0 (by decide)
    · by_cases z6 : gb (gI X 89 f) (gI X 69 (S.2.2.2.2.2 j)) = true ∧ ¬ gI X 81 (tfJ S X j) < gI X 67 (S.2.2.2.2.2 j)
      · have : ftL st S f day (d + 1) j left cnt X = ftL st S f day d (j + 1) (left - gI X 68 (S.2.2.2.2.2 j)) (cnt + 1) (TF S X j (nI f) day) := if_pos ⟨z1, z2, z3, z6.1, z5, z6.2⟩
        rw [this]
        exact ev_post (fun r Y' ⟨y1, y2, y3, y4⟩ => ⟨y1, y2, c_tr x3 y3, y4⟩) (ft_r hf hs d (j + 1) _ _ _ Y1 (by omega) (tf_inv h hj z6.2) ((tf_ne (hm_big h.lay hj) (by decide) (by decide) (by decide) (by decide) (by decide) (by decide) (by decide)).trans hst) x2 x4)
      · rw [if_neg z6] at v1
        exact absurd rfl v1
def fdL (st : Int32) (S : gp_S) (f : Nat) (day : Int32) (X : gp_H) : gp_H × Int32 := ftL st S f day S.1 0 (gI X 90 f) 0 X
theorem s_fitOnDay (h : Inv N S X) (lY : Lay S Y) (c : Cf X Y) {st day : Int32} {f : Nat} (hf : f < 8) : Ev E m_ga_fitOnDay 0 [(0, .ref 0), (1, .int st), (2, .int day), (3, .int (nI f))] [] Y (0, 0) (fun r Y' => r = some (.int (fdL st S f day X).2) ∧ Lay S Y' ∧ Rf Y Y' ∧ Cf (fdL st S f day X).1 Y') := by
  refine b_ga_fitOnDay_0 lY ⟨vin hf (by omega), ?_⟩
  rw [nI_c (k := f) (by omega), c 33 _ rfl, (h.fit.2.1 f).2.1]
  exact ft_c hf S.1 0 _ _ X Y rfl h lY c
theorem s_fits (h : Inv N S X) (lY : Lay S Y) (c : Rf X Y) {day : Int32} {f s : Nat} (hf : f < 8) (hs : s < 7) : Ev E m_mo_fits 0 [(0, .ref 55), (1, .int (nI s)), (2, .int (nI f)), (3, .int day)] [] Y (0, 0) (fun r Y' => r = some (.int (fdL (gI X 85 s) S f day X).2) ∧ Lay S Y' ∧ Cf Y Y' ∧ Rf (fdL (gI X 85 s) S f day X).1 Y') := by
  refine b_mo_fits_0 lY ⟨vin hf (by omega), ?_⟩
  rw [nI_c (k := f) (by omega), c 90 _ rfl]
  exact ft_r hf hs S.1 0 _ _ X Y rfl h rfl lY c
def frL (st : Int32) (S : gp_S) (day : Int32) : Nat → Nat → Int32 → gp_H → gp_H × Int32
  | 0, _, cnt, X => (X, cnt)
  | d + 1, f, cnt, X => frL st S day d (f + 1) (cnt + (fdL st S f day X).2) (fdL st S f day X).1
def dyL (st : Int32) (N : Nat → Nat) (S : gp_S) : Nat → Nat → Int32 → gp_H → gp_H × Int32
  | 0, _, cnt, X => (X, cnt)
  | d + 1, day, cnt, X => dyL st N S d (day + 1) (frL st S (nI day) (N 9) 0 cnt X).2 (frL st S (nI day) (N 9) 0 cnt X).1
theorem fr_inv {st day : Int32} : ∀ (d f : Nat) (cnt : Int32) (X : gp_H), Inv N S X → Inv N S (frL st S day d f cnt X).1
  | 0, _, _, _, h => h
  | d + 1, f, cnt, X, h => fr_inv d (f + 1) _ _ (ft_inv S.1 0 _ _ X rfl h)
theorem fr_85 {st day : Int32} {k : Nat} : ∀ (d f : Nat) (cnt : Int32) (X : gp_H), Inv N S X → gI (frL st S day d f cnt X).1 85 k = gI X 85 k
  | 0, _, _, _, _ => rfl
  | d + 1, f, cnt, X, h => (fr_85 d (f + 1) _ _ (ft_inv S.1 0 _ _ X rfl h)).trans (ft_85 S.1 0 _ _ X rfl h)
theorem dy_inv {st : Int32} : ∀ (d day : Nat) (cnt : Int32) (X : gp_H), Inv N S X → Inv N S (dyL st N S d day cnt X).1
  | 0, _, _, _, h => h
  | d + 1, day, cnt, X, h => dy_inv d (day + 1) _ _ (fr_inv (N 9) 0 cnt X h)
theorem dy_85 {st : Int32} {k : Nat} : ∀ (d day : Nat) (cnt : Int32) (X : gp_H), Inv N S X → gI (dyL st N S d day cnt X).1 85 k = gI X 85 k
  | 0, _, _, _, _ => rfl
  | d + 1, day, cnt, X, h => (dy_85 d (day + 1) _ _ (fr_inv (N 9) 0 cnt X h)).trans (fr_85 (N 9) 0 cnt X h)
theorem fr_c {st day : Int32} {Q : Option Value → gp_H → Prop} : ∀ (d f : Nat) (cnt : Int32) (X Y : gp_H), d + f = N 9 → Inv N S X → Lay S Y → Cf X Y → (∀ Y', Lay S Y' → Rf Y Y' → Cf (frL st S day d f cnt X).1 Y' → Ev E m_ga_fitHomes 4 [(0, .ref 0), (1, .int st), (2, .int (frL st S day d f cnt X).2), (3, .int (day + 1))] [] Y' (0, 0) Q) → Ev E m_ga_fitHomes 12 [(0, .ref 0), (1, .int st), (2, .int cnt), (3, .int day), (4, .int (nI f))] [] Y (0, 0) Q
  | 0, f, cnt, X, Y, e, h, lY, c, g => by
    obtain rfl : f = N 9 := by omega
    exact b_ga_fitHomes_12 lY ⟨fun _ => g Y lY (rf_0 Y) c, fun z => absurd (by rw [c 31 0 rfl, h.fit.1.1]; exact Int32.le_refl _) z⟩
  | d + 1, f, cnt, X, Y, e, h, lY, c, g => by
    have k3 := h.fit.1.2.2
    refine b_ga_fitHomes_12 lY ⟨fun z => absurd z (by rw [c 31 0 rfl, h.fit.1.1]; exact nI_nge (show f < N 9 by omega) (by omega)), fun _ => ⟨_, s_fitOnDay h lY c (st := st) (day := day) (f := f) (by omega), fun r Y1 ⟨x1, x2, x3, x4⟩ => ⟨_, x1, x2, ?_⟩⟩⟩
    rw [nI_s]
    exact fr_c d (f + 1) _ _ Y1 (by omega) (ft_inv S.1 0 _ _ X rfl h) x2 x4 (fun Y' l' r' c' => g Y' l' (r_tr x3 r') c')
theorem dy_c {st : Int32} : ∀ (d day : Nat) (cnt : Int32) (X Y : gp_H), d + day = 5 → Inv N S X → Lay S Y → Cf X Y → Ev E m_ga_fitHomes 4 [(0, .ref 0), (1, .int st), (2, .int cnt), (3, .int (nI day))] [] Y (0, 0) (fun r Y' => r = some (.int (dyL st N S d day cnt X).2) ∧ Lay S Y' ∧ Rf Y Y' ∧ Cf (dyL st N S d day cnt X).1 Y')
  | 0, day, cnt, X, Y, e, h, lY, c => by
    obtain rfl : day = 5 := by omega
    exact b_ga_fitHomes_4 lY ⟨fun _ => ⟨rfl, lY, rf_0 Y, c⟩, fun z => absurd (Int32.le_refl _) z⟩
  | d + 1, day, cnt, X, Y, e, h, lY, c => by
    refine b_ga_fitHomes_4 lY ⟨fun z => absurd z (nI_nge (a := day) (b := 5) (by omega) (by decide)), fun _ => fr_c (N 9) 0 cnt X Y rfl h lY c (fun Y1 l1 r1 c1 => ?_)⟩
    rw [nI_s]
    exact ev_post (fun r Y' ⟨y1, y2, y3, y4⟩ => ⟨y1, y2, r_tr r1 y3, y4⟩) (dy_c d (day + 1) _ _ Y1 (by omega) (fr_inv (N 9) 0 cnt X h) l1 c1)
theorem fr_r {s : Nat} (hs : s < 7) {x2 x3 day : Int32} {Q : Option Value → gp_H → Prop} {st : Int32} : ∀ (d f : Nat) (cnt : Int32) (X Y : gp_H), d + f = N 9 → Inv N S X → gI X 85 s = st → Lay S Y → Rf X Y → (∀ Y', Lay S Y' → Cf Y Y' → Rf (frL st S day d f cnt X).1 Y' → Ev E m_mo_change 234 [(0, .ref 55), (1, .int (nI s)), (2, .int x2), (3, .int x3), (4, .int (frL st S day d f cnt X).2), (5, .int (day + 1))] [] Y' (0, 0) Q) → Ev E m_mo_change 243 [(0, .ref 55), (1, .int (nI s)), (2, .int x2), (3, .int x3), (4, .int cnt), (5, .int day), (6, .int (nI f))] [] Y (0, 0) Q
  | 0, f, cnt, X, Y, e, h, hst, lY, c, g => by
    obtain rfl : f = N 9 := by omega
    exact b_mo_change_243 lY ⟨fun _ => g Y lY (cf_0 Y) c, fun z => absurd (by rw [c 55 45 rfl, h.fit.1.2.1]; exact Int32.le_refl _) z⟩
  | d + 1, f, cnt, X, Y, e, h, hst, lY, c, g => by
    have k3 := h.fit.1.2.2
    subst hst
    refine b_mo_change_243 lY ⟨fun z => absurd z (by rw [c 55 45 rfl, h.fit.1.2.1]; exact nI_nge (show f < N 9 by omega) (by omega)), fun _ => ⟨_, s_fits h lY c (day := day) (f := f) (by omega) hs, fun r Y1 ⟨x1, x2, x3, x4⟩ => ⟨_, x1, x2, ?_⟩⟩⟩
    rw [nI_s]
    exact fr_r hs d (f + 1) _ _ Y1 (by omega) (ft_inv S.1 0 _ _ X rfl h) (ft_85 S.1 0 _ _ X rfl h) x2 x4 (fun Y' l' r' c' => g Y' l' (c_tr x3 r') c')
theorem dy_r {s : Nat} (hs : s < 7) {x2 x3 : Int32} {Q : Option Value → gp_H → Prop} {st : Int32} : ∀ (d day : Nat) (cnt : Int32) (X Y : gp_H), d + day = 5 → Inv N S X → gI X 85 s = st → Lay S Y → Rf X Y → (∀ Y', Lay S Y' → Cf Y Y' → Rf (dyL st N S d day cnt X).1 Y' → Ev E m_mo_change 281 [(0, .ref 55), (1, .int (nI s)), (2, .int x2), (3, .int x3), (4, .int (dyL st N S d day cnt X).2), (5, .int 0)] [] Y' (0, 0) Q) → Ev E m_mo_change 234 [(0, .ref 55), (1, .int (nI s)), (2, .int x2), (3, .int x3), (4, .int cnt), (5, .int (nI day))] [] Y (0, 0) Q
  | 0, day, cnt, X, Y, e, h, hst, lY, c, g => by
    obtain rfl : day = 5 := by omega
    exact b_mo_change_234 lY ⟨fun _ => g Y lY (cf_0 Y) c, fun z => absurd (Int32.le_refl _) z⟩
  | d + 1, day, cnt, X, Y, e, h, hst, lY, c, g => by
    refine b_mo_change_234 lY ⟨fun z => absurd z (nI_nge (a := day) (b := 5) (by omega) (by decide)), fun _ => fr_r hs (N 9) 0 cnt X Y rfl h hst lY c (fun Y1 l1 r1 c1 => ?_)⟩
    rw [nI_s]
    exact dy_r hs d (day + 1) _ _ Y1 (by omega) (fr_inv (N 9) 0 cnt X h) ((fr_85 (N 9) 0 cnt X h).trans hst) l1 c1 (fun Y' l' r' c' => g Y' l' (c_tr r1 r') c')
/-- old homes are shut off -/
def shX (S : gp_S) (X : gp_H) (j : Nat) : gp_H := gp_sI (gp_sI X (S.2.2.1 j) 4 2) 74 j 2
def stL (st : Int32) (S : gp_S) : Nat → Nat → gp_H → gp_H
  | 0, _, X => X
  | d + 1, j, X => if gI X 74 j = 0 ∧ gb st (gI X 70 j) = true then stL st S d (j + 1) (shX S X j) else stL st S d (j + 1) X
theorem shX_inv (h : Inv N S X) {j : Nat} (hj : j < S.1) (hz : gI X 74 j = 0) : Inv N S (shX S X j) := by
  have hL := h.lay
  have hb := hm_big hL hj
  obtain ⟨⟨a0, a1, a2, a3, a4, a5, a6, a7, a8⟩, a9, a10, a11, a12⟩ := h.hom.2 j hj
  have rd : ∀ a k, gI (shX S X j) a k = if a = 74 ∧ k = j then 2 else if a = (S.2.2.1 j) ∧ k = 4 then 2 else gI X a k := fun a k => rfl
  have lo : ∀ a k, ¬ (a = 74 ∧ k = j) → ¬ (a = (S.2.2.1 j) ∧ k = 4) → gI (shX S X j) a k = gI X a k := fun a k z1 z2 => by rw [rd, if_neg z1, if_neg z2]
  have n78 : ¬ gI X 78 j = 1 := fun z => by
    have := a12 z
    rw [hz] at this
    exact absurd this (by decide)
  refine iw_y [(74, 0)] true N h (ly_sI (ly_sI hL)) (fun a k ho hh => lo a k (fun y => (off_ne ho (74, 0)) y.1) (fun y => (hh.resolve_left (by decide)) j hj y.1)) (fun hx => ⟨hx.1, (hx.2.1 rfl), (hx.2.2.1 rfl), (hx.2.2.2.1 rfl), (hx.2.2.2.2.1 rfl), ?_, (hx.2.2.2.2.2.2.1 rfl), ?_, (hx.2.2.2.2.2.2.2.2.1 rfl), (hx.2.2.2.2.2.2.2.2.2.1 rfl), (hx.2.2.2.2.2.2.2.2.2.2.1 rfl), (hx.2.2.2.2.2.2.2.2.2.2.2.1 rfl), (hx.2.2.2.2.2.2.2.2.2.2.2.2.1 rfl), (hx.2.2.2.2.2.2.2.2.2.2.2.2.2.1 rfl), (hx.2.2.2.2.2.2.2.2.2.2.2.2.2.2.1 rfl), (hx.2.2.2.2.2.2.2.2.2.2.2.2.2.2.2.1 rfl), (hx.2.2.2.2.2.2.2.2.2.2.2.2.2.2.2.2.1 rfl), (hx.2.2.2.2.2.2.2.2.2.2.2.2.2.2.2.2.2.1 rfl), (hx.2.2.2.2.2.2.2.2.2.2.2.2.2.2.2.2.2.2.1 rfl), (hx.2.2.2.2.2.2.2.2.2.2.2.2.2.2.2.2.2.2.2.1 rfl), (hx.2.2.2.2.2.2.2.2.2.2.2.2.2.2.2.2.2.2.2.2.1 rfl), (hx.2.2.2.2.2.2.2.2.2.2.2.2.2.2.2.2.2.2.2.2.2 rfl)⟩)
  · refine I_hom_up (j := j) h.hom (lo _ _ (by omega) (by omega)) (lo _ _ (by omega) (by omega)) (fun r r1 r2 k => lo _ _ (by omega) (by omega)) (fun r r1 r2 k hk => lo _ _ (by omega) (by omega)) (fun i hi k hk => ?_) (fun i hi hne k => ?_) ?_ ?_ ?_ ?_ ?_ ?_ ?_ ?_
    · have := hm_big hL hi
      exact lo _ _ (by omega) (by omega)
    · have := hm_big hL hi
      have := hm_ne hL hi hj hne
      exact lo _ _ (by omega) (by omega)
    · rw [rd, rd, if_neg (by omega), if_pos ⟨rfl, rfl⟩, if_pos ⟨rfl, rfl⟩]
    · rw [lo _ _ (by omega) (by omega), lo _ _ (by omega) (by omega)]; exact a5
    · rw [lo _ _ (by omega) (by omega), lo _ _ (by omega) (by omega)]; exact a6
    · rw [lo _ _ (by omega) (by omega), lo _ _ (by omega) (by omega)]; exact a7
    · rw [lo _ _ (by omega) (by omega), lo _ _ (by omega) (by omega)]; exact a8
    · exact Or.inr (Or.inr (by rw [rd, if_pos ⟨rfl, rfl⟩]))
    · rw [lo _ _ (by omega) (by omega)]; exact a11
    · intro y
      rw [lo _ _ (by omega) (by omega)] at y
      exact absurd y n78
  · refine I_sur_cg rfl (lo _ _ (by omega) (by omega)) (lo _ _ (by omega) (by omega)) (fun i hi => funext fun k => lo _ _ (by omega) (by omega)) (fun i hi => ?_) h.sur
    have := hm_big hL hi
    exact lo _ _ (by omega) (by omega)
theorem st_inv {st : Int32} : ∀ (d j : Nat) (X : gp_H), d + j = S.1 → Inv N S X → Inv N S (stL st S d j X)
  | 0, _, _, _, h => h
  | d + 1, j, X, e, h => by
    unfold stL
    split
    · rename_i z
      exact st_inv d (j + 1) _ (by omega) (shX_inv h (by omega) z.1)
    · exact st_inv d (j + 1) X (by omega) h
theorem st_c {st : Int32} : ∀ (d j : Nat) (X Y : gp_H), d + j = S.1 → Inv N S X → Lay S Y → Cf X Y → Ev E m_ga_shutOldHomes 2 [(0, .ref 0), (1, .int st), (2, .int (nI j))] [] Y (0, 0) (fun r Y' => r = none ∧ Lay S Y' ∧ Rf Y Y' ∧ Cf (stL st S d j X) Y')
  | 0, j, X, Y, e, h, lY, c => by
    obtain rfl : j = S.1 := by omega
    exact b_ga_shutOldHomes_2 lY ⟨fun _ => ⟨rfl, lY, rf_0 Y, c⟩, fun z => absurd (by rw [c 0 6 rfl, h.hom.1.1]; exact Int32.le_refl _) z⟩
  | d + 1, j, X, Y, e, h, lY, c => by
    have l := l40 lY
    have hj : j < S.1 := by omega
    have hb := hm_big lY hj
    obtain ⟨⟨a0, a1, a2, a3, a4, -⟩, -⟩ := h.hom.2 j hj
    have lh := lY.2.2.2.2.1 j hj
    have skip : ¬ (gI X 74 j = 0 ∧ gb st (gI X 70 j) = true) → Ev E m_ga_shutOldHomes 2 [(0, .ref 0), (1, .int st), (2, .int (nI (j + 1)))] [] Y (0, 0) (fun r Y' => r = none ∧ Lay S Y' ∧ Rf Y Y' ∧ Cf (stL st S (d + 1) j X) Y') := fun z => by
      have : stL st S (d + 1) j X = stL st S d (j + 1) X := if_neg z
      rw [this]
      exact st_c d (j + 1) X Y (by omega) h lY c
    have vj : vp_in (nI j) 40 := vin (by omega) (by omega)
    refine b_ga_shutOldHomes_2 lY ⟨fun z => absurd z (by rw [c 0 6 rfl, h.hom.1.1]; exact nI_nge hj (by omega)), fun _ => ⟨vj, ?_⟩⟩
    rw [nI_c (k := j) (by omega), nI_s]
    refine ⟨_, lh.1, lh.2.1, ?_⟩
    rw [cf_hm c lY hj 4, a4]
    refine ⟨fun z => skip (fun y => z y.1), fun z1 => ⟨vj, _, lh.1, lh.2.1, ?_⟩⟩
    rw [cf_hm c lY hj 0, a0]
    refine ⟨fun z => skip (fun y => bnf z y.2), fun z2 => ⟨vj, _, lh.1, lh.2.1, ?_⟩⟩
    have : stL st S (d + 1) j X = stL st S d (j + 1) (shX S X j) := if_pos ⟨z1, z2⟩
    rw [this]
    exact ev_post (fun r Y' ⟨y1, y2, y3, y4⟩ => ⟨y1, y2, r_tr (rg_sI (rf_0 Y) (isR_big hb)) y3, y4⟩) (st_c d (j + 1) _ _ (by omega) (shX_inv h hj z1) (ly_sI lY) (cl_ (cb c)))
theorem st_r {s : Nat} (hs : s < 7) {x2 x3 x4 : Int32} {Q : Option Value → gp_H → Prop} {st : Int32} : ∀ (d j : Nat) (X Y : gp_H), d + j = S.1 → Inv N S X → gI X 85 s = st → Lay S Y → Rf X Y → (∀ Y', Lay S Y' → Cf Y Y' → Rf (stL st S d j X) Y' → Ev E m_mo_change 281 [(0, .ref 55), (1, .int (nI s)), (2, .int x2), (3, .int x3), (4, .int x4), (5, .int (nI S.1))] [] Y' (0, 0) Q) → Ev E m_mo_change 281 [(0, .ref 55), (1, .int (nI s)), (2, .int x2), (3, .int x3), (4, .int x4), (5, .int (nI j))] [] Y (0, 0) Q
  | 0, j, X, Y, e, h, hst, lY, c, g => by
    obtain rfl : j = S.1 := by omega
    exact g Y lY (cf_0 Y) c
  | d + 1, j, X, Y, e, h, hst, lY, c, g => by
    have l := l40 lY
    have hj : j < S.1 := by omega
    have hb := hm_big lY hj
    have vj : vp_in (nI j) 40 := vin (by omega) (by omega)
    have skip : ¬ (gI X 74 j = 0 ∧ gb st (gI X 70 j) = true) → Ev E m_mo_change 329 [(0, .ref 55), (1, .int (nI s)), (2, .int x2), (3, .int x3), (4, .int x4), (5, .int (nI j))] [.int (nI j), .ref 74] Y (0, 0) Q := fun z => by
      have : stL st S (d + 1) j X = stL st S d (j + 1) X := if_neg z
      rw [this] at g
      refine b_mo_change_329 lY ⟨vj, vj, ?_⟩
      rw [nI_c (k := j) (by omega), nI_s]
      exact st_r hs d (j + 1) X _ (by omega) h hst (ly_sI lY) (rf_same c (fun _ => c 74 _ rfl)) (fun Y' l' c' r' => g Y' l' (c_tr (cg_sI (cf_0 Y)) c') r')
    refine b_mo_change_281 lY ⟨fun z => absurd z (by rw [c 55 19 rfl, h.hom.1.2]; exact nI_nge hj (by omega)), fun _ => ⟨vj, ?_⟩⟩
    rw [nI_c (k := j) (by omega), nI_c (k := s) (by omega), c 74 _ rfl, c 85 _ rfl, c 70 _ rfl, hst, nI_s]
    refine ⟨fun z => skip (fun y => z y.1), fun z1 => ⟨vin hs (by omega), fun z => skip (fun y => bnf z y.2), fun z2 => ?_⟩⟩
    have : stL st S (d + 1) j X = stL st S d (j + 1) (shX S X j) := if_pos ⟨z1, z2⟩
    rw [this] at g
    refine st_r hs d (j + 1) (shX S X j) _ (by omega) (shX_inv h hj z1) ?_ (ly_sI lY) (rb (rl_ c (isR_big hb))) (fun Y' l' c' r' => g Y' l' (c_tr (cg_sI (cf_0 Y)) c') r')
    unfold shX
    simp only [gI_sI]
    rw [if_neg (by omega), if_neg (by omega)]
    exact hst
end CHD
theorem p_change {E : gp_E} {N : Nat → Nat} {S : gp_S} {X : gp_H} (h : Inv N S X) (x1 : Int32) : Ev E m_ga_change 0 [(0, .ref 0), (1, .int x1)] [] X (0, 0) (gp_two E m_mo_change [(0, .ref 55), (1, .int x1)]) := by
  have hL := h.lay
  obtain ⟨⟨k1, k2, k3⟩, s4, -⟩ := h.sec
  obtain ⟨w1, w2, w3⟩ := h.wek
  have h1 := lkX_inv h
  refine b_ga_change_0 hL ?_
  rw [k1, w1]
  have RO : ∀ {Y : gp_H} (lY : Lay S Y) (hr : Rf X Y) {Q}, _ := fun {Y} lY hr {Q} => show _ from by
    have := b_mo_change_0 (E := E) (x1 := x1) (Q := Q) lY
    rw [hr 55 37 rfl, k2] at this
    exact this
  refine ⟨fun c => ?_, fun c => ⟨_, S, rfl, hL, RO hL (rf_0 X) ⟨fun z => bnf c z, fun _ => ⟨rfl, N, h⟩⟩⟩⟩
  obtain ⟨s, hs, rfl⟩ := iw_nI (by omega) c
  have hs7 : s < 7 := by omega
  obtain ⟨V, hV⟩ := wh_ex N S (lkX N S X) s
  obtain ⟨V0, hV0⟩ := wh_ex N S X s
  have rl : Rf X (lkX N S X) := fun a k ha => lkX_ne (fun z => by rw [z] at ha; exact absurd ha (by decide))
  refine ⟨fun c2 => ⟨_, S, rfl, hL, RO hL (rf_0 X) ⟨fun _ => wh_i (s_mo_whyNot h hL (rf_0 X) hs hV0) hL ⟨fun _ => ⟨rfl, N, h⟩, fun _ => ⟨fun z => ?_, fun _ => ⟨rfl, N, h⟩⟩⟩, fun z => bne c z⟩⟩, fun c2 => wh_i (s_ga_whatHinders h hs hV) h1.lay ⟨fun v0 => ⟨vin hs7 (by omega), ?_⟩, fun v0 => ⟨_, S, rfl, h1.lay, RO h1.lay rl ⟨fun _ => wh_i (s_mo_whyNot h1 h1.lay (rf_0 _) hs hV) h1.lay ⟨fun _ => ⟨rfl, N, h1⟩, fun z => absurd z v0⟩, fun z => bne c z⟩⟩⟩⟩
  · rw [w2] at z
    have : N 13 = 200 := Nat.le_antisymm w3 (Nat.le_of_not_lt (fun y => nI_nge (a := N 13) (b := 200) y (by decide) c2))
    exact absurd (by rw [this]; rfl) z
  have hl : N 13 < 200 := Nat.lt_of_not_le (fun y => c2 (nI_gee (a := N 13) (b := 200) y (by omega)))
  obtain ⟨i0, g8⟩ := at8_ex h1 s
  rw [nI_c (k := s) (by omega), lkX_ne (by decide), s4 s]
  have hA := ta_inv h1 hs g8
  have eA : gI (TA N (lkX N S X) s i0) 85 s = gI X 85 s := by
    rw [ta_at, if_neg (by omega), if_neg (by omega), if_neg (by omega), if_neg (by omega), lkX_ne (by decide)]
  generalize eZA : TA N (lkX N S X) s i0 = ZA at hA eA
  have hB := cl_inv (N := tN N i0) (st := gI X 85 s) (N 2) 0 ZA rfl hA
  have eB : gI (clL (gI X 85 s) (N 2) 0 ZA) 85 s = gI X 85 s := (cl_ne (by decide) (by decide) (N 2) 0 ZA).trans eA
  generalize eZB : clL (gI X 85 s) (N 2) 0 ZA = ZB at hB eB
  have hC := tc_inv hB (dnS (tN N i0) ZB)
  have eC : gI (TC (tN N i0) ZB (dnS (tN N i0) ZB)) 85 s = gI X 85 s := (tc_ne (by decide) (by decide) (by decide)).trans eB
  generalize eZC : TC (tN N i0) ZB (dnS (tN N i0) ZB) = ZC at hC eC
  have hD := dy_inv (st := gI X 85 s) 5 0 0 ZC hC
  have eD := (dy_85 (st := gI X 85 s) (k := s) 5 0 0 ZC hC).trans eC
  have hE := st_inv (st := gI X 85 s) S.1 0 _ rfl hD
  have hF := ewZ_inv hE hl
  refine ⟨_, s_setChanged h1 h1.lay (cf_0 _) g8, fun r A ⟨a1, a2, a3, a4⟩ => ⟨a1, a2, _, b_ne_closeWorksAt_0 a2 (cl_c (N := tN N i0) (N 2) 0 ZA A rfl hA a2 (by rw [← eZA]; exact a4)), fun r B ⟨b1, b2, b3, b4⟩ => ⟨b1, b2, ?_⟩⟩⟩
  rw [eZB] at b4
  refine wh_i (s_se_changedKnots' hB b2 b4) b2 ⟨_, s_part hB b2 b4 _, fun r C ⟨c1, c2, c3, c4⟩ => ⟨c1, c2, ?_⟩⟩
  rw [eZC] at c4
  refine ⟨_, b_ga_fitHomes_0 c2 (dy_c 5 0 0 ZC C rfl hC c2 c4), fun r D ⟨d1, d2, d3, d4⟩ => ⟨_, d1, d2, _, b_ga_shutOldHomes_0 d2 (st_c S.1 0 _ D rfl hD d2 d4), fun r F ⟨f1, f2, f3, f4⟩ => ⟨f1, f2, _, s_ga_endWeek hE hl f2 f4, fun r G ⟨g1, g2, g3, g4⟩ => ⟨g1, g2, _, S, rfl, g2, ?_⟩⟩⟩⟩
  have rG : Rf (lkX N S X) G := r_tr a3 (r_tr b3 (r_tr c3 (r_tr d3 (r_tr f3 g3))))
  refine RO g2 (r_tr rl rG) ⟨fun _ => wh_i (s_mo_whyNot h1 g2 rG hs hV) g2 ⟨fun z => absurd v0 z, fun _ => ⟨fun _ => ⟨vin hs7 (by omega), ?_⟩, fun z => ?_⟩⟩, fun z => bne c z⟩
  · rw [nI_c (k := s) (by omega)]
    have gB : ∀ (x2 : Int32) (Y : gp_H), Lay S Y → Cf G Y → Rf ZA Y → Ev E m_mo_change 93 [(0, .ref 55), (1, .int (nI s)), (2, .int x2), (3, .int 0)] [] Y (0, 0) (fun r2 X2 => r2 = some (.int (dyL (gI X 85 s) (tN N i0) S 5 0 0 ZC).2) ∧ ∃ N, Inv N S X2) := fun x2 Y lY cY rY => by
      refine cl_r (N := tN N i0) hs7 (N 2) 0 ZA Y rfl hA lY rY (fun Y1 l1 c1 r1 => ?_)
      rw [eA, eZB] at r1
      refine b_mo_change_93 l1 ⟨fun _ => wh_i (s_mo_done hB l1 r1) l1 (s_open hB l1 r1 (fun Y2 l2 c2 r2 => ?_)), fun z => absurd (by rw [r1 55 6 rfl, hB.wrk.1.2.1]; exact Int32.le_refl _) z⟩
      rw [eZC] at r2
      refine dy_r hs7 5 0 0 ZC Y2 rfl hC eC l2 r2 (fun Y3 l3 c3 r3 => ?_)
      refine st_r hs7 S.1 0 _ Y3 rfl hD eD l3 r3 (fun Y4 l4 c4 r4 => ?_)
      refine b_mo_change_281 l4 ⟨fun _ => ⟨_, s_mo_ends hE hl l4 r4, fun r Z ⟨y1, y2, y3, y4⟩ => ⟨y1, y2, rfl, _, inv_cr hF y2 (c_tr g4 (c_tr cY (c_tr c1 (c_tr c2 (c_tr c3 (c_tr c4 y3)))))) y4⟩⟩, fun z => absurd (by rw [r4 55 19 rfl, hE.hom.1.2]; exact Int32.le_refl _) z⟩
    have rG86 : ∀ a k, isR a = true → gI (gp_sI G 86 s 1) a k = if a = 86 ∧ k = s then 1 else gI (lkX N S X) a k := fun a k ha => by
      show (if a = 86 ∧ k = s then 1 else gI G a k) = _
      rw [rG a k ha]
    refine wh_i (s_place h1 (ly_sI g2) (rG86 55 40 rfl) (fun k => rG86 87 k rfl) g8) (ly_sI g2) ?_
    have k8 := h1.pln.1.2.2
    by_cases y : i0 < N 8
    · rw [if_pos y]
      refine ⟨fun z => absurd z (by
        have : ∀ n, n < 7 → ¬ nI n = -1 := by decide
        exact this i0 (by omega)), fun _ => ?_⟩
      rw [nI_s]
      refine s_shift h1 y (fun Y' l' c' r' => gB _ Y' l' c' (by rw [← eZA]; exact r')) (N 8 - (i0 + 1)) (i0 + 1) _ (by omega) (by omega) (ly_sI g2) (cg_sI (cf_0 G)) (fun a k ha => ?_)
      rw [rG86 a k ha, if_neg (show ¬ (a = 87 ∧ i0 ≤ k ∧ k + 1 < i0 + 1) by omega)]
    · rw [if_neg y]
      refine ⟨fun _ => gB _ _ (ly_sI g2) (cg_sI (cf_0 G)) (fun a k ha => ?_), fun z => absurd rfl z⟩
      rw [rG86 a k ha, ← eZA, ta_at]
      have hb := isR_lt ha
      rw [if_neg (show ¬ ((a = 25 ∨ a = 87) ∧ i0 ≤ k ∧ k + 1 < N 8) by omega), if_neg (show ¬ (a = 23 ∧ k = 3) by omega)]
      by_cases z : a = 86 ∧ k = s
      · rw [if_pos z, if_pos z]
      · rw [if_neg z, if_neg z]
        by_cases z2 : a = 55 ∧ k = 40
        · rw [if_pos (Or.inr z2), z2.1, z2.2, h1.pln.1.2.1]
          unfold pn
          rw [if_neg y]
        · rw [if_neg (show ¬ ((a = 23 ∧ k = 4) ∨ (a = 55 ∧ k = 40)) by omega)]
  · rw [rG 55 44 rfl, lkX_ne (by decide), w2] at z
    exact absurd ((nI_eq_lit (k := 200) rfl (by omega) (by omega)).mp z) (by omega)
