theorem iw_y {N : Nat → Nat} {S : gp_S} {X X' : gp_H} (W : List (Nat × Nat)) (H : Bool) (N' : Nat → Nat) (h : Inv N S X) (l : Lay S X') (hf : ∀ a k, off W a k = true → (H = false ∨ ∀ j, j < S.1 → a ≠ S.2.2.1 j) → gI X' a k = gI X a k) (g : InvX (fun i => W.all (fun q => fr i q.1 q.2) && (!H || !(i == 5 || i == 7))) N S X' → Inv N' S X') (hW : W.all (fun q => Nat.blt q.1 114) = true := by rfl) : Inv N' S X' := by
  refine g ?_
  have := X_w (f := gI X') W H (X_0 h) hf hW
  simp only [Bool.true_and] at this
  exact invx_ext this l (fun _ _ => rfl)
section FIT
variable {E : gp_E} {N : Nat → Nat} {S : gp_S} {X Y : gp_H}
theorem isR_big {a : Nat} (h : 114 ≤ a) : isR a = false := by
  cases z : isR a with
  | false => rfl
  | true => exact absurd (isR_lt z).2 (by omega)
theorem rf_same {a k : Nat} {v : Int32} (g : Rf X Y) (hv : isR a = true → v = gI X a k) : Rf X (gp_sI Y a k v) := fun i j hi => by
  show (if i = a ∧ j = k then v else gI Y i j) = _
  by_cases z : i = a ∧ j = k
  · rw [if_pos z, z.1, z.2]
    exact hv (by rw [← z.1]; exact hi)
  · rw [if_neg z]; exact g i j hi
/-- a home is changed -/
def tfJ (S : gp_S) (X : gp_H) (j : Nat) : Nat := Int32.toNatClampNeg (gI X 66 (S.2.2.2.2.2 j))
def tfV (S : gp_S) (X : gp_H) (j : Nat) : Int32 := gI X 81 (tfJ S X j) - gI X 67 (S.2.2.2.2.2 j)
def TF (S : gp_S) (X : gp_H) (j : Nat) (f d : Int32) : gp_H := (gp_sI (gp_sI (gp_sI (gp_sI (gp_sI (gp_sI (gp_sI (gp_sI (gp_sI (gp_sI X 19 (tfJ S X j) (tfV S X j)) (S.2.2.1 j) 4 1) (S.2.2.1 j) 5 f) (S.2.2.1 j) 6 (gI X 55 44)) (S.2.2.1 j) 7 d) 74 j 1) 75 j f) 76 j (gI X 55 44)) 77 j d) 81 (tfJ S X j) (tfV S X j))
theorem tf_mod (h : Inv N S X) {j : Nat} (hj : j < S.1) : (S.2.2.2.2.2 j) < S.2.1 ∧ S.2.1 ≤ 12 ∧ gI X 66 (S.2.2.2.2.2 j) = nI (tfJ S X j) ∧ tfJ S X j < 5 ∧ (∃ b, 1 ≤ b ∧ b ≤ 9 ∧ gI X 67 (S.2.2.2.2.2 j) = nI b) ∧ gI X 73 j = nI (S.2.2.2.2.2 j) := by
  have hm := (h.lay.2.2.2.2.1 j hj).2.2.2.2
  obtain ⟨-, a, b, c, d, p1, p2, p3, p4, p5, -⟩ := h.mod.2 _ hm
  have e : tfJ S X j = a := by unfold tfJ; rw [p2, nI_c (by omega)]
  exact ⟨hm, l12 h.lay, by rw [e]; exact p2, by rw [e]; exact p1, ⟨b, p3, p4, p5⟩, (h.hom.2 j hj).1.2.2.2.1⟩
theorem s_ga_fit (h : Inv N S X) (lY : Lay S Y) (c : Cf X Y) {j : Nat} (hj : j < S.1) (f d : Int32) : Ev E m_ga_fit 0 [(0, .ref 0), (1, .ref (S.2.2.1 j)), (2, .int f), (3, .int d)] [] Y (0, 0) (fun r Y' => r = none ∧ Lay S Y' ∧ Rf Y Y' ∧ Cf (TF S X j f d) Y') := by
  obtain ⟨q1, q2, q3, q4, ⟨b, b1, b2, b3⟩, q5⟩ := tf_mod h hj
  have hb := hm_big lY hj
  have lh := lY.2.2.2.2.1 j hj
  obtain ⟨r1, r2, r3⟩ := md_at lY q1
  obtain ⟨⟨m1, m2, m3, m4, m5, m6⟩, -⟩ := h.mod.2 _ q1
  refine b_ga_fit_0 lY lh.2.1 ⟨_, _, lh.2.2.2.1, r2, r3, ?_⟩
  rw [cf_md c lY q1, m2, q3]
  refine ⟨vin q4 (by omega), _, _, lh.2.2.2.1, r2, r3, ?_⟩
  rw [cf_md c lY q1, m3, nI_c (by omega), c 19 _ rfl, (h.stk _).1]
  have e16 : gI (gp_sI (gp_sI (gp_sI Y 19 (tfJ S X j) (gI X 81 (tfJ S X j) - gI X 67 (S.2.2.2.2.2 j))) (S.2.2.1 j) 4 1) (S.2.2.1 j) 5 f) 0 16 = gI X 55 44 := by
    simp only [gI_sI]
    rw [if_neg (by omega), if_neg (by omega), if_neg (by omega)]
    exact (c 0 16 rfl).trans (h.wek.1.trans h.wek.2.1.symm)
  rw [e16]
  exact ⟨rfl, ly_sI (ly_sI (ly_sI (ly_sI (ly_sI lY)))), rg_sI (rg_sI (rg_sI (rg_sI (rg_sI (rf_0 Y)) (isR_big hb)) (isR_big hb)) (isR_big hb)) (isR_big hb), cl_ (cl_ (cl_ (cl_ (cl_ (cb (cb (cb (cb (cb c)))))))))⟩
theorem s_mo_changes (h : Inv N S X) (lY : Lay S Y) (c : Rf X Y) {j : Nat} (hj : j < S.1) (f d : Int32) : Ev E m_mo_changes 0 [(0, .ref 55), (1, .int (nI j)), (2, .int f), (3, .int d)] [] Y (0, 0) (fun r Y' => r = none ∧ Lay S Y' ∧ Cf Y Y' ∧ Rf (TF S X j f d) Y') := by
  obtain ⟨q1, q2, q3, q4, ⟨b, b1, b2, b3⟩, q5⟩ := tf_mod h hj
  have hb := hm_big lY hj
  have l := l40 lY
  refine b_mo_changes_0 lY ⟨vin (by omega) (by omega), ?_⟩
  rw [nI_c (k := j) (by omega), c 73 _ rfl, q5, nI_c (k := (S.2.2.2.2.2 j)) (by omega), c 66 _ rfl, q3, nI_c (k := tfJ S X j) (by omega), c 81 _ rfl, c 67 _ rfl, c 55 44 rfl]
  refine ⟨vin (by omega) (by omega), vin q4 (by omega), rfl, ly_sI (ly_sI (ly_sI (ly_sI (ly_sI lY)))), cg_sI (cg_sI (cg_sI (cg_sI (cg_sI (cf_0 Y))))), rb (rb (rb (rb (rb (rl_ (rl_ (rl_ (rl_ (rl_ c) (isR_big hb)) (isR_big hb)) (isR_big hb)) (isR_big hb))))))⟩
theorem tf_inv (h : Inv N S X) {j : Nat} (hj : j < S.1) {f d : Int32} (hs : ¬ gI X 81 (tfJ S X j) < gI X 67 (S.2.2.2.2.2 j)) : Inv N S (TF S X j f d) := by
  have hL := h.lay
  obtain ⟨q1, q2, q3, q4, ⟨b, b1, b2, b3⟩, q5⟩ := tf_mod h hj
  obtain ⟨⟨a0, a1, a2, a3, a4, a5, a6, a7, a8⟩, a9, a10, a11, a12⟩ := h.hom.2 j hj
  have hb := hm_big hL hj
  obtain ⟨n, hn, en⟩ := (h.stk (tfJ S X j)).2
  have ev : tfV S X j = nI (n - b) := by
    unfold tfV
    rw [en, b3] at hs ⊢
    have : b ≤ n := by
      rw [nI_ltI (by omega) (by omega)] at hs; omega
    rw [pk_sub this]
  have rd : ∀ a k, gI (TF S X j f d) a k = if a = 81 ∧ k = tfJ S X j then tfV S X j else if a = 77 ∧ k = j then d else if a = 76 ∧ k = j then gI X 55 44 else if a = 75 ∧ k = j then f else if a = 74 ∧ k = j then 1 else if a = (S.2.2.1 j) ∧ k = 7 then d else if a = (S.2.2.1 j) ∧ k = 6 then gI X 55 44 else if a = (S.2.2.1 j) ∧ k = 5 then f else if a = (S.2.2.1 j) ∧ k = 4 then 1 else if a = 19 ∧ k = tfJ S X j then tfV S X j else gI X a k := fun a k => rfl
  have lo : ∀ a k, a ≠ 81 → a ≠ 77 → a ≠ 76 → a ≠ 75 → a ≠ 74 → a ≠ 19 → a ≠ (S.2.2.1 j) → gI (TF S X j f d) a k = gI X a k := fun a k z1 z2 z3 z4 z5 z6 z7 => by
    rw [rd, if_neg (fun y => z1 y.1), if_neg (fun y => z2 y.1), if_neg (fun y => z3 y.1), if_neg (fun y => z4 y.1), if_neg (fun y => z5 y.1), if_neg (fun y => z7 y.1), if_neg (fun y => z7 y.1), if_neg (fun y => z7 y.1), if_neg (fun y => z7 y.1), if_neg (fun y => z6 y.1)]
  refine iw_y [(19, 0), (81, 0), (74, 0), (75, 0), (76, 0), (77, 0)] true N h (ly_sI (ly_sI (ly_sI (ly_sI (ly_sI (ly_sI (ly_sI (ly_sI (ly_sI (ly_sI hL)))))))))) (fun a k ho hh => lo a k (off_ne ho (81, 0)) (off_ne ho (77, 0)) (off_ne ho (76, 0)) (off_ne ho (75, 0)) (off_ne ho (74, 0)) (off_ne ho (19, 0)) ((hh.resolve_left (by decide)) j hj)) (fun hx => ⟨hx.1, (hx.2.1 rfl), (hx.2.2.1 rfl), (hx.2.2.2.1 rfl), (hx.2.2.2.2.1 rfl), ?_, (hx.2.2.2.2.2.2.1 rfl), ?_, ?_, (hx.2.2.2.2.2.2.2.2.2.1 rfl), (hx.2.2.2.2.2.2.2.2.2.2.1 rfl), (hx.2.2.2.2.2.2.2.2.2.2.2.1 rfl), (hx.2.2.2.2.2.2.2.2.2.2.2.2.1 rfl), (hx.2.2.2.2.2.2.2.2.2.2.2.2.2.1 rfl), (hx.2.2.2.2.2.2.2.2.2.2.2.2.2.2.1 rfl), (hx.2.2.2.2.2.2.2.2.2.2.2.2.2.2.2.1 rfl), (hx.2.2.2.2.2.2.2.2.2.2.2.2.2.2.2.2.1 rfl), (hx.2.2.2.2.2.2.2.2.2.2.2.2.2.2.2.2.2.1 rfl), (hx.2.2.2.2.2.2.2.2.2.2.2.2.2.2.2.2.2.2.1 rfl), (hx.2.2.2.2.2.2.2.2.2.2.2.2.2.2.2.2.2.2.2.1 rfl), (hx.2.2.2.2.2.2.2.2.2.2.2.2.2.2.2.2.2.2.2.2.1 rfl), (hx.2.2.2.2.2.2.2.2.2.2.2.2.2.2.2.2.2.2.2.2.2 rfl)⟩)
  · refine I_hom_up (j := j) h.hom (lo _ _ (by decide) (by decide) (by decide) (by decide) (by decide) (by decide) (by omega)) (lo _ _ (by decide) (by decide) (by decide) (by decide) (by decide) (by decide) (by omega)) (fun r r1 r2 k => lo _ _ (by omega) (by omega) (by omega) (by omega) (by omega) (by omega) (by omega)) (fun r r1 r2 k hk => ?_) (fun i hi k hk => ?_) (fun i hi hne k => ?_) ?_ ?_ ?_ ?_ ?_ ?_ ?_ ?_
    · rw [rd, if_neg (by omega), if_neg (by omega), if_neg (by omega), if_neg (by omega), if_neg (by omega), if_neg (by omega), if_neg (by omega), if_neg (by omega), if_neg (by omega), if_neg (by omega)]
    · have := hm_big hL hi
      rw [rd, if_neg (by omega), if_neg (by omega), if_neg (by omega), if_neg (by omega), if_neg (by omega), if_neg (by omega), if_neg (by omega), if_neg (by omega), if_neg (by omega), if_neg (by omega)]
    · have := hm_big hL hi
      exact lo _ _ (by omega) (by omega) (by omega) (by omega) (by omega) (by omega) (hm_ne hL hi hj hne)
    · rw [rd, rd, if_neg (by omega), if_neg (by omega), if_neg (by omega), if_neg (by omega), if_neg (by omega), if_neg (by omega), if_neg (by omega), if_neg (by omega), if_pos ⟨rfl, rfl⟩, if_neg (by omega), if_neg (by omega), if_neg (by omega), if_neg (by omega), if_pos ⟨rfl, rfl⟩]
    · rw [rd, rd, if_neg (by omega), if_neg (by omega), if_neg (by omega), if_neg (by omega), if_neg (by omega), if_neg (by omega), if_neg (by omega), if_pos ⟨rfl, rfl⟩, if_neg (by omega), if_neg (by omega), if_neg (by omega), if_pos ⟨rfl, rfl⟩]
    · rw [rd, rd, if_neg (by omega), if_neg (by omega), if_neg (by omega), if_neg (by omega), if_neg (by omega), if_neg (by omega), if_pos ⟨rfl, rfl⟩, if_neg (by omega), if_neg (by omega), if_pos ⟨rfl, rfl⟩]
    · rw [rd, rd, if_neg (by omega), if_neg (by omega), if_neg (by omega), if_neg (by omega), if_neg (by omega), if_pos ⟨rfl, rfl⟩, if_neg (by omega), if_pos ⟨rfl, rfl⟩]
    · rw [rd, rd, if_neg (by omega), if_neg (by omega), if_neg (by omega), if_neg (by omega), if_neg (by omega), if_neg (by omega), if_neg (by omega), if_neg (by omega), if_neg (by omega), if_neg (by omega), if_neg (by omega), if_neg (by omega), if_neg (by omega), if_neg (by omega), if_neg (by omega), if_neg (by omega), if_neg (by omega), if_neg (by omega), if_neg (by omega), if_neg (by omega)]; exact a8
    · exact Or.inr (Or.inl (by rw [rd, if_neg (by omega), if_neg (by omega), if_neg (by omega), if_neg (by omega), if_pos ⟨rfl, rfl⟩]))
    · rw [lo 78 j (by decide) (by decide) (by decide) (by decide) (by decide) (by decide) (by omega)]; exact a11
    · intro _
      rw [rd, if_neg (by omega), if_neg (by omega), if_neg (by omega), if_neg (by omega), if_pos ⟨rfl, rfl⟩]
  · refine I_sur_cg rfl (lo _ _ (by decide) (by decide) (by decide) (by decide) (by decide) (by decide) (by omega)) (lo _ _ (by decide) (by decide) (by decide) (by decide) (by decide) (by decide) (by omega)) (fun i hi => funext fun k => lo _ _ (by omega) (by omega) (by omega) (by omega) (by omega) (by omega) (by omega)) (fun i hi => ?_) h.sur
    have := hm_big hL hi
    rw [rd, if_neg (by omega), if_neg (by omega), if_neg (by omega), if_neg (by omega), if_neg (by omega), if_neg (by omega), if_neg (by omega), if_neg (by omega), if_neg (by omega), if_neg (by omega)]
  · have r19 : ∀ i, gI (TF S X j f d) 19 i = if i = tfJ S X j then tfV S X j else gI X 19 i := fun i => by
      rw [rd, if_neg (by omega), if_neg (by omega), if_neg (by omega), if_neg (by omega), if_neg (by omega), if_neg (by omega), if_neg (by omega), if_neg (by omega), if_neg (by omega)]
      by_cases z : i = tfJ S X j
      · rw [if_pos ⟨rfl, z⟩, if_pos z]
      · rw [if_neg (fun y => z y.2), if_neg z]
    have r81 : ∀ i, gI (TF S X j f d) 81 i = if i = tfJ S X j then tfV S X j else gI X 81 i := fun i => by
      rw [rd]
      by_cases z : i = tfJ S X j
      · rw [if_pos ⟨rfl, z⟩, if_pos z]
      · rw [if_neg (fun y => z y.2), if_neg z, if_neg (by omega), if_neg (by omega), if_neg (by omega), if_neg (by omega), if_neg (by omega), if_neg (by omega), if_neg (by omega), if_neg (by omega), if_neg (by omega)]
    refine fun i => ⟨two_rows (fun i => (h.stk i).1) r19 r81 i, ?_⟩
    by_cases z : i = tfJ S X j
    · rw [r81, if_pos z]; exact ⟨n - b, by omega, ev⟩
    · rw [r81, if_neg z]; exact (h.stk i).2
theorem s_hasJets (h : Inv N S X) (lY : Lay S Y) (c : Cf X Y) {j : Nat} (hj : j < S.1) : Ev E m_ga_hasJetsFor 0 [(0, .ref 0), (1, .ref (S.2.2.2.1 (S.2.2.2.2.2 j)))] [] Y (0, 0) (gp_q (some (.int (if gI X 81 (tfJ S X j) < gI X 67 (S.2.2.2.2.2 j) then 0 else 1))) Y) := by
  obtain ⟨q1, q2, q3, q4, -, q5⟩ := tf_mod h hj
  obtain ⟨r1, r2, r3⟩ := md_at lY q1
  obtain ⟨⟨m1, m2, m3, m4, m5, m6⟩, -⟩ := h.mod.2 _ q1
  refine b_ga_hasJetsFor_0 lY r2 r3 ?_
  rw [cf_md c lY q1, cf_md c lY q1, m2, m3, q3, nI_c (by omega), c 19 _ rfl, (h.stk _).1]
  exact ⟨vin q4 (by omega), fun z => ⟨by rw [if_pos z], rfl⟩, fun z => ⟨by rw [if_neg z], rfl⟩⟩
theorem s_mo_canFit (h : Inv N S X) (lY : Lay S Y) (c : Rf X Y) {j f : Nat} (hj : j < S.1) (hf : f < 8) : Ev E m_mo_canFit 0 [(0, .ref 55), (1, .int (nI j)), (2, .int (nI f))] [] Y (0, 0) (gp_q (some (.int (if gb (gI X 89 f) (gI X 69 (S.2.2.2.2.2 j)) = true ∧ ¬ gI X 81 (tfJ S X j) < gI X 67 (S.2.2.2.2.2 j) then 1 else 0))) Y) := by
  obtain ⟨q1, q2, q3, q4, -, q5⟩ := tf_mod h hj
  have l := l40 lY
  refine b_mo_canFit_0 lY ⟨vin (by omega) (by omega), vin hf (by omega), ?_⟩
  rw [nI_c (k := j) (by omega), nI_c (k := f) (by omega), c 73 _ rfl, q5, nI_c (k := (S.2.2.2.2.2 j)) (by omega), c 89 _ rfl, c 69 _ rfl, c 66 _ rfl, c 67 _ rfl, q3, nI_c (k := tfJ S X j) (by omega), c 81 _ rfl]
  exact ⟨vin (by omega) (by omega), fun z => ⟨by rw [if_neg (fun y => bnf z y.1)], rfl⟩, fun z => ⟨vin q4 (by omega), fun z2 => ⟨by rw [if_neg (fun y => y.2 z2)], rfl⟩, fun z2 => ⟨by rw [if_pos ⟨z, z2⟩], rfl⟩⟩⟩
end FIT
theorem p_later {E : gp_E} {N : Nat → Nat} {S : gp_S} {X : gp_H} (h : Inv N S X) (x1 x2 : Int32) : Ev E m_ga_later 0 [(0, .ref 0), (1, .int x1), (2, .int x2)] [] X (0, 0) (gp_two E m_mo_later [(0, .ref 55), (1, .int x1), (2, .int x2)]) := by
  have hL := h.lay
  have l := l40 hL
  have hn := h.net.1
  obtain ⟨⟨f1, f2, f3⟩, fq, -⟩ := h.fit
  have R := fun {Y : gp_H} (lY : Lay S Y) (gY : Rf X Y) {Q} => show _ from by
    have := b_mo_later_0 (E := E) (x1 := x1) (x2 := x2) (Q := Q) lY
    rw [gY 55 19 rfl, h.hom.1.2, gY 55 45 rfl, f2, gY 74 _ rfl] at this
    exact this
  refine b_ga_later_0 hL (wh_home h (fun j hj e => ?_) (fun c1 => ⟨_, S, rfl, hL, R hL (rf_0 X) ⟨fun _ => ⟨rfl, N, h⟩, fun z => bnf c1 z⟩⟩))
  subst e
  have c1 := iw_of hj (show S.1 ≤ 100000 by omega)
  have vj : vp_in (nI j) 40 := vin (by omega) (by omega)
  obtain ⟨⟨a0, a1, a2, a3, a4, -⟩, ⟨kk, bb, cc, hkk, ekk, -⟩, -⟩ := h.hom.2 j hj
  have lh := hL.2.2.2.2.1 j hj
  obtain ⟨q1, q2, q3, q4, -, q5⟩ := tf_mod h hj
  obtain ⟨r1, r2, r3⟩ := md_at hL q1
  obtain ⟨⟨m1, m2, m3, m4, m5, m6⟩, -⟩ := h.mod.2 _ q1
  rw [f1, a4]
  rw [nI_c (k := j) (by omega)] at R
  refine ⟨fun c2 => ?_, fun c2 => ⟨_, S, rfl, hL, R hL (rf_0 X) ⟨fun z => bne c1 z, fun _ => ⟨fun z => bnf c2 z, fun _ => ⟨rfl, N, h⟩⟩⟩⟩⟩
  obtain ⟨f, hf, rfl⟩ := iw_nI (by omega) c2
  have no : (gI X 74 j = 2 → gb (dnS N X) (gI X 70 j) = true → ¬ (gb (gI X 89 f) (gI X 69 (S.2.2.2.2.2 j)) = true ∧ ¬ gI X 81 (tfJ S X j) < gI X 67 (S.2.2.2.2.2 j))) → gp_two E m_mo_later [(0, .ref 55), (1, .int (nI j)), (2, .int (nI f))] (some (.int (-3))) X := fun z => by
    refine ⟨_, S, rfl, hL, R hL (rf_0 X) ⟨fun y => bne c1 y, fun _ => ⟨fun _ => ⟨vj, fun _ => ⟨rfl, N, h⟩, fun c3 => wh_i (s_mo_done h hL (rf_0 X)) hL ?_⟩, fun y => bne c2 y⟩⟩⟩
    refine ⟨fun _ => ⟨rfl, N, h⟩, fun c4 => wh_i (s_mo_canFit h hL (rf_0 X) hj (by omega)) hL ⟨fun y => ?_, fun _ => ⟨rfl, N, h⟩⟩⟩
    rw [if_neg (z c3 c4)] at y
    exact absurd rfl y
  refine ⟨fun c3 => no (fun z => absurd z c3), fun c3 => wh_i (s_se_changedKnots' h hL (cf_0 X)) hL ⟨lh.2.1, ?_⟩⟩
  rw [a0]
  refine ⟨fun c4 => ⟨_, _, lh.2.2.2.1, r2, r3, vin (by omega) (by omega), ?_⟩, fun c4 => no (fun _ z => bnf c4 z)⟩
  rw [nI_c (k := f) (by omega), (fq f).1, m5]
  refine ⟨fun c5 => no (fun _ _ z => bnf c5 z.1), fun c5 => ⟨_, _, lh.2.2.2.1, r2, r3, wh_i (s_hasJets h hL (cf_0 X) hj) hL ⟨lh.2.1, fun c6 => ?_, fun c6 => no (fun _ _ z => ?_)⟩⟩⟩
  · have c6' : ¬ gI X 81 (tfJ S X j) < gI X 67 (S.2.2.2.2.2 j) := fun z => by rw [if_pos z] at c6; exact absurd rfl c6
    have ti := tf_inv h hj (f := nI f) (d := 5) c6'
    refine ⟨_, s_ga_fit h hL (cf_0 X) hj _ _, fun r Y ⟨x1, x2, x3, x4⟩ => ⟨x1, x2, (hm_at x2 hj).2, _, S, rfl, x2, R x2 x3 ⟨fun y => bne c1 y, fun _ => ⟨fun _ => ⟨vj, fun z => absurd c3 z, fun _ => wh_i (s_mo_done h x2 x3) x2 ?_⟩, fun y => bne c2 y⟩⟩⟩⟩
    rw [x3 70 _ rfl]
    refine ⟨fun z => bne c4 z, fun _ => wh_i (s_mo_canFit h x2 x3 hj (by omega)) x2 ⟨fun _ => ⟨_, s_mo_changes h x2 x3 hj _ _, fun r Z ⟨y1, y2, y3, y4⟩ => ⟨y1, y2, rfl, _, inv_cr ti y2 (c_tr x4 y3) y4⟩⟩, fun y => ?_⟩⟩
    rw [if_pos ⟨c5, c6'⟩] at y
    exact absurd y (by decide)
  · rw [if_neg z.2] at c6
    exact absurd c6 (by decide)
