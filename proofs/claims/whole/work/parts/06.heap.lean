/-- a cell there is, of a kind -/
def gp_at (X : gp_H) (a : Nat) (q : Nat × Nat) : Prop := a < X.1 ∧ X.2.1 a = q
/-- a field's link in a pool -/
def gp_fl (own : String) (idx g k : Nat) : Prop := k < gp_nf g ∧ ∃ ref : String, Cond.fieldLink own idx ref (gp_T g k).2.1 (gp_T g k).2.2.1 ∈ lw_g ∧ (ref = (gp_T g k).1 ∨ Cond.sameField ref (gp_T g k).1 (gp_T g k).2.1 (gp_T g k).2.2.1 ∈ lw_g)
/-- kinds of one group have the same fields -/
theorem gp_grp : ∀ {ci g : Nat}, ci < 13 → gp_gid ci = g → gp_T ci = gp_T g ∧ gp_nf ci = gp_nf g ∧ gp_ty ci = gp_ty g
  | 0, _, _, h => by subst h; exact ⟨rfl, rfl, rfl⟩
  | 1, _, _, h => by subst h; exact ⟨rfl, rfl, rfl⟩
  | 2, _, _, h => by subst h; exact ⟨rfl, rfl, rfl⟩
  | 3, _, _, h => by subst h; exact ⟨rfl, rfl, rfl⟩
  | 4, _, _, h => by subst h; exact ⟨rfl, rfl, rfl⟩
  | 5, _, _, h => by subst h; exact ⟨rfl, rfl, rfl⟩
  | 6, _, _, h => by subst h; exact ⟨rfl, rfl, rfl⟩
  | 7, _, _, h => by subst h; exact ⟨rfl, rfl, rfl⟩
  | 8, _, _, h => by subst h; exact ⟨rfl, rfl, rfl⟩
  | 9, _, _, h => by subst h; exact ⟨rfl, rfl, rfl⟩
  | 10, _, _, h => by subst h; exact ⟨rfl, rfl, rfl⟩
  | 11, _, _, h => by subst h; exact ⟨rfl, rfl, rfl⟩
  | 12, _, _, h => by subst h; exact ⟨rfl, rfl, rfl⟩
  | n + 13, _, hn, _ => absurd hn (by omega)
theorem gp_dv : ∀ ci, ci < 13 → ∀ k, k < gp_nf ci → defaultValue (gp_ty ci k) = (if gp_rf ci k then Value.null else Value.int 0) := by decide +kernel
section EVH
variable {E : gp_E} {y : gp_M} {pc : Nat} {L : List (Nat × Value)} {st : List Value} {X : gp_H} {u : Nat × Nat} {Q : Option Value → gp_H → Prop}
theorem gp_hsame {s : State} {args : Array Value} {own ref : String} {g k : Nat} (hts : ∀ w ∈ lw_g, w.before args s = true) (h : ref = (gp_T g k).1 ∨ Cond.sameField ref (gp_T g k).1 (gp_T g k).2.1 (gp_T g k).2.2.1 ∈ lw_g) : ∀ x, s.fieldFound? (gp_T g k).1 (gp_T g k).2.1 (gp_T g k).2.2.1 = some x → s.fieldFound? ref (gp_T g k).2.1 (gp_T g k).2.2.1 = some x := by
  intro x hx
  rcases h with h | h
  · rw [h]; exact hx
  · exact u_same (hts _ h) x hx
theorem gp_getv {idx g k a ci z : Nat} (hd : decode y.2.1 pc = .ok (.getfield idx, 3)) (hf : gp_fl y.1.cls idx g k) (ha : gp_at X a (ci, z)) (hg : ci < 13 ∧ gp_gid ci = g) {v : Value} (hv : ∀ G, gp_v G v = gp_fv G X a ci k) (kk : Ev E y (pc + 3) L (v :: st) X u Q) : Ev E y pc L (.ref a :: st) X u Q := by
  intro G p e s m args below meth c H locs ls Z hG hF hH hl
  obtain ⟨hk, ref, h1, h2⟩ := hf
  obtain ⟨e1, e2, e3⟩ := gp_grp hg.1 hg.2
  have hts := hG.2.2.2.2.2.1
  have he := gp_w_at (G := G) ha.1
  rw [gp_e_obj ha.2 hg.1] at he
  refine va_get (D := (G.1, G.2.1)) (own := y.1.cls) (ref := ref) (index := idx) (ci := ci) (v := gp_fv G X a ci k) (C := gp_R ci) (T := gp_T ci) (N := gp_nf ci) hG.1 hG.2.1 hts (gp_cl_g ci hg.1) hG.2.2.2.2.1 hG.2.2.2.2.2.2.2.2.1 hH.2.1 a he (gp_cl_at ci hg.1) k (by rw [e2]; exact hk) (by rw [e1]; exact hts _ h1) (by rw [e1]; exact gp_hsame (own := y.1.cls) hts h2) (gp_fs_at (by rw [e2]; exact hk)) hd ?_
  have := kk G p e s m args below meth c H locs ls Z hG hF hH hl
  rw [← hv G]
  exact this
theorem ev_getI {idx g k a ci z : Nat} (hd : decode y.2.1 pc = .ok (.getfield idx, 3)) (hf : gp_fl y.1.cls idx g k) (ha : gp_at X a (ci, z)) (hg : ci < 13 ∧ gp_gid ci = g) (hr : gp_rf g k = false) (kk : Ev E y (pc + 3) L (.int (X.2.2.2.1 a k) :: st) X u Q) : Ev E y pc L (.ref a :: st) X u Q := by
  refine gp_getv hd hf ha hg (fun G => ?_) kk
  have : gp_rf ci k = false := by unfold gp_rf; rw [(gp_grp hg.1 hg.2).2.2]; exact hr
  unfold gp_fv
  rw [this]
  rfl
theorem ev_getR {idx g k a ci z j : Nat} (hd : decode y.2.1 pc = .ok (.getfield idx, 3)) (hf : gp_fl y.1.cls idx g k) (ha : gp_at X a (ci, z)) (hg : ci < 13 ∧ gp_gid ci = g) (hr : gp_rf g k = true) (hj : X.2.2.1 a k = some j) (kk : Ev E y (pc + 3) L (.ref j :: st) X u Q) : Ev E y pc L (.ref a :: st) X u Q := by
  refine gp_getv hd hf ha hg (fun G => ?_) kk
  have : gp_rf ci k = true := by unfold gp_rf; rw [(gp_grp hg.1 hg.2).2.2]; exact hr
  unfold gp_fv
  rw [this, hj]
  rfl
/-- a field is written: X' is X but for this field -/
theorem gp_putv {X' : gp_H} {idx g k a ci z : Nat} {v : Value} (hd : decode y.2.1 pc = .ok (.putfield idx, 3)) (hf : gp_fl y.1.cls idx g k) (ha : gp_at X a (ci, z)) (hg : ci < 13 ∧ gp_gid ci = g)
    (hfin : (gp_T g k).2.2.2 = false ∨ ((gp_T g k).2.2.2 = true ∧ y.1.name = "<init>" ∧ (gp_T g k).1 = y.1.cls)) (hn : ∀ G, narrow (gp_ty g k) (gp_v G v) = gp_v G v) (hfit : ∀ G, fits (gp_ty g k) (gp_v G v) = true)
    (hX1 : X'.1 = X.1) (hX2 : X'.2.1 a = (ci, z)) (hX3 : ∀ G j, j ≠ a → gp_e G X' j = gp_e G X j) (hX4 : ∀ G j, j ≠ k → gp_fv G X' a ci j = gp_fv G X a ci j) (hX5 : ∀ G, gp_fv G X' a ci k = gp_v G v)
    (kk : Ev E y (pc + 3) L st X' u Q) : Ev E y pc L (v :: .ref a :: st) X u Q := by
  intro G p e s m args below meth c H locs ls Z hG hF hH hl
  obtain ⟨hk, ref, h1, h2⟩ := hf
  obtain ⟨e1, e2, e3⟩ := gp_grp hg.1 hg.2
  have hts := hG.2.2.2.2.2.1
  have he := gp_w_at (G := G) ha.1
  rw [gp_e_obj ha.2 hg.1] at he
  have hw : gp_w G X' = (gp_w G X).set a (G.2.2.2.1 + a, .inr (ci, ((List.range (gp_nf ci)).map (gp_fv G X a ci)).set k (gp_v G v))) := by
    rw [gp_w_set hX1 (hX3 G), gp_e_obj hX2 hg.1, gp_fs_set (hX4 G), hX5 G]
  have fin : ∀ (H1 : Heap) (locs1 : List Loc), va_P (G.1, G.2.1) gp_cl ((gp_w G X).set a (G.2.2.2.1 + a, .inr (ci, ((List.range (gp_nf ci)).map (gp_fv G X a ci)).set k (gp_v G v)))) H1 → va_S (gp_A G) s.heap H1 locs1 → H1.size = H.size → W p E.1 e y.2.2.2.2 s m args below meth c H1 locs1 u.1 u.2 Z (F0 m (pc + 3) ls (st.map (gp_v G))) := fun H1 locs1 hP1 hS1 hz =>
    kk G p e s m args below meth c H1 locs1 ls Z hG hF ⟨by rw [hz, hH.1, hX1], by rw [hw]; exact hP1, hS1⟩ hl
  have hkN : k < gp_nf ci := by rw [e2]; exact hk
  have hap := va_apart (own := y.1.cls) hts (gp_cl_g ci hg.1) (gp_ty ci) (gp_cl_ty ci hg.1) (gp_cl_nm ci hg.1) hG.2.2.2.2.2.2.2.2.1 (gp_cl_at ci hg.1)
  obtain ⟨r, r1, cell, q1, q2, q3, q4⟩ := hH.2.1 a _ he
  have hr : r = (gp_R ci, gp_T ci, gp_nf ci) := Option.some.inj (r1.symm.trans (gp_cl_at ci hg.1))
  subst hr
  obtain ⟨hS, hfc, kC, hkC, hkind⟩ := hG.2.2.2.2.2.2.2.2.1.1 ci _ (gp_cl_at ci hg.1)
  obtain ⟨cf, kf, fi, f, hi, hsl⟩ := hS k hkN
  have hlay := hts _ (gp_cl_g ci hg.1 _ (u_in_lay hkN))
  have hst := (u_facts hfc hkC (u_lays hts (gp_cl_g ci hg.1) hkN) hi).1
  have hlink : (Cond.fieldLink y.1.cls idx ref (gp_T ci k).2.1 (gp_T ci k).2.2.1).before args s = true := by rw [e1]; exact hts _ h1
  have hsame : ∀ x, s.fieldFound? (gp_T ci k).1 (gp_T ci k).2.1 (gp_T ci k).2.2.1 = some x → s.fieldFound? ref (gp_T ci k).2.1 (gp_T ci k).2.2.1 = some x := by rw [e1]; exact gp_hsame (own := y.1.cls) hts h2
  have hd1 : parseFieldDescriptor (gp_T ci k).2.2.1 = some (gp_ty ci k) := gp_cl_ty ci hg.1 k hkN
  have hnn : narrow (gp_ty ci k) (gp_v G v) = gp_v G v := by rw [e3]; exact hn G
  have hff : fits (gp_ty ci k) (gp_v G v) = true := by rw [e3]; exact hfit G
  have hlen : k < ((List.range (gp_nf ci)).map (gp_fv G X a ci)).length := by simpa using hkN
  have hD := gp_w_D G X
  rcases hfin with hfin | ⟨hfin, hin2, hdecl⟩
  · have hfin' : (gp_T ci k).2.2.2 = false := by rw [e1]; exact hfin
    unfold u_lay at hlay
    rw [if_neg (by rw [hfin']; decide)] at hlay
    have h6 := u_store hfc hkC hkind hlay hi hd1 hnn hff
    refine W.putK hG.1 hG.2.1 (f := f) ⟨hG.2.2.2.2.1, hlink, ⟨_, _, _, hsame _ hi⟩, hst⟩ (by rw [q2]; exact h6) q1 q3 (by rw [hsl]; exact k2_hasslot (q4 k hkN)) rfl rfl hd fun H' z1 z2 z3 => ?_
    rw [hsl] at z1 ⊢
    exact fin H' _ (hH.2.1.set hD he ⟨_, gp_cl_at ci hg.1, t_OB.to (V := updV (vp_V ((List.range (gp_nf ci)).map (gp_fv G X a ci))) k (gp_v G v)) ⟨_, z1, q2, q3, t_set q4 hap hkN (gp_v G v)⟩ (fun j _ => vp_updV_set hlen (gp_v G v) j)⟩ z3) (hH.2.2.put z2 z3 (hD.2 a _ he)) z2
  · have hfin' : (gp_T ci k).2.2.2 = true := by rw [e1]; exact hfin
    unfold u_lay at hlay
    rw [if_pos hfin'] at hlay
    have hdecl' : (gp_T ci k).1 = y.1.cls := by rw [e1]; exact hdecl
    have hcf : m.cls = cf := by
      obtain ⟨_, _, c', _, _, _, -, -, hf', -, -, -, hown2, -⟩ := Cond.laysFinal_spec hlay
      have z1 : c' = cf := by have := hi.symm.trans hf'; simp at this; exact this.1.symm
      rw [hdecl'] at hown2
      rw [← z1]; exact Option.some.inj (hG.2.2.2.2.1.symm.trans hown2)
    have h6 := u_fits hfc hkC hkind (Or.inr hlay) hi hd1 hnn hff
    refine W.putFinK hG.1 hG.2.1 hG.2.2.2.2.1 hlink (hsame _ hi) hst hcf (by rw [hG.2.2.2.2.2.2.2.1]; exact hin2) (by rw [q2]; exact h6) q1 q3 (by rw [hsl]; exact k2_hasslot (q4 k hkN)) rfl rfl hd fun H' z1 z2 z3 => ?_
    rw [hsl] at z1 ⊢
    exact fin H' _ (hH.2.1.set hD he ⟨_, gp_cl_at ci hg.1, t_OB.to (V := updV (vp_V ((List.range (gp_nf ci)).map (gp_fv G X a ci))) k (gp_v G v)) ⟨_, z1, q2, q3, t_set q4 hap hkN (gp_v G v)⟩ (fun j _ => vp_updV_set hlen (gp_v G v) j)⟩ z3) (hH.2.2.put z2 z3 (hD.2 a _ he)) z2
theorem ev_putI {idx g k a ci z : Nat} {v : Int32} (hd : decode y.2.1 pc = .ok (.putfield idx, 3)) (hf : gp_fl y.1.cls idx g k) (ha : gp_at X a (ci, z)) (hg : ci < 13 ∧ gp_gid ci = g) (hr : gp_rf g k = false)
    (hfin : (gp_T g k).2.2.2 = false ∨ ((gp_T g k).2.2.2 = true ∧ y.1.name = "<init>" ∧ (gp_T g k).1 = y.1.cls)) (hn : narrow (gp_ty g k) (.int v) = .int v) (hfit : fits (gp_ty g k) (.int v) = true)
    (kk : Ev E y (pc + 3) L st (gp_sI X a k v) u Q) : Ev E y pc L (.int v :: .ref a :: st) X u Q := by
  have hr' : gp_rf ci k = false := by unfold gp_rf; rw [(gp_grp hg.1 hg.2).2.2]; exact hr
  refine gp_putv (X' := gp_sI X a k v) (v := .int v) hd hf ha hg hfin (fun _ => hn) (fun _ => hfit) rfl ha.2 (fun G j hj => gp_e_sI hj) (fun G j hj => ?_) (fun G => ?_) kk
  · unfold gp_fv
    show (if gp_rf ci j then va_rf (gp_o G (X.2.2.1 a j)) else Value.int (gp_up X.2.2.2.1 a k v a j)) = _
    rw [gp_up_nk hj]
  · unfold gp_fv
    rw [hr']
    show Value.int (gp_up X.2.2.2.1 a k v a k) = _
    rw [gp_up_eq]
    rfl
theorem ev_putR {idx g k a ci z j : Nat} (hd : decode y.2.1 pc = .ok (.putfield idx, 3)) (hf : gp_fl y.1.cls idx g k) (ha : gp_at X a (ci, z)) (hg : ci < 13 ∧ gp_gid ci = g) (hr : gp_rf g k = true)
    (hfin : (gp_T g k).2.2.2 = false ∨ ((gp_T g k).2.2.2 = true ∧ y.1.name = "<init>" ∧ (gp_T g k).1 = y.1.cls)) (hn : ∀ q, narrow (gp_ty g k) (.ref q) = .ref q) (hfit : ∀ q, fits (gp_ty g k) (.ref q) = true)
    (kk : Ev E y (pc + 3) L st (gp_sR X a k (some j)) u Q) : Ev E y pc L (.ref j :: .ref a :: st) X u Q := by
  have hr' : gp_rf ci k = true := by unfold gp_rf; rw [(gp_grp hg.1 hg.2).2.2]; exact hr
  refine gp_putv (X' := gp_sR X a k (some j)) (v := .ref j) hd hf ha hg hfin (fun _ => hn _) (fun _ => hfit _) rfl ha.2 (fun G i hi => gp_e_sR hi) (fun G i hi => ?_) (fun G => ?_) kk
  · unfold gp_fv
    show (if gp_rf ci i then va_rf (gp_o G (gp_up X.2.2.1 a k (some j) a i)) else Value.int (X.2.2.2.1 a i)) = _
    rw [gp_up_nk hi]
  · unfold gp_fv
    rw [hr']
    show va_rf (gp_o G (gp_up X.2.2.1 a k (some j) a k)) = _
    rw [gp_up_eq]
    rfl
/-! arrays -/
theorem ev_iald {a n : Nat} {i : Int32} (hd : decode y.2.1 pc = .ok (.iaload, 1)) (ha : gp_at X a (13, n)) (hi : vp_in i n) (kk : Ev E y (pc + 1) L (.int (X.2.2.2.1 a i.toNatClampNeg) :: st) X u Q) : Ev E y pc L (.int i :: .ref a :: st) X u Q := by
  intro G p e s m args below meth c H locs ls Z hG hF hH hl
  have he := gp_w_at (G := G) ha.1
  rw [gp_e_arr (t := 0) ha.2] at he
  exact va_iald hG.1 hG.2.1 hG.2.2.2.2.2.2.2.2.1 hH.2.1 a 0 he rfl hi hd (kk G p e s m args below meth c H locs ls Z hG hF hH hl)
theorem ev_zald {a n : Nat} {i : Int32} (hd : decode y.2.1 pc = .ok (.baload, 1)) (ha : gp_at X a (14, n)) (hi : vp_in i n) (kk : Ev E y (pc + 1) L (.int (X.2.2.2.1 a i.toNatClampNeg) :: st) X u Q) : Ev E y pc L (.int i :: .ref a :: st) X u Q := by
  intro G p e s m args below meth c H locs ls Z hG hF hH hl
  have he := gp_w_at (G := G) ha.1
  rw [gp_e_arr (t := 1) ha.2] at he
  exact va_zald hG.1 hG.2.1 hG.2.2.2.2.2.2.2.2.1 hH.2.1 a 1 he rfl hi hd (kk G p e s m args below meth c H locs ls Z hG hF hH hl)
theorem ev_lald {a n : Nat} {i : Int32} (hd : decode y.2.1 pc = .ok (.laload, 1)) (ha : gp_at X a (15, n)) (hi : vp_in i n) (kk : Ev E y (pc + 1) L (.long (X.2.2.2.2 a i.toNatClampNeg) :: st) X u Q) : Ev E y pc L (.int i :: .ref a :: st) X u Q := by
  intro G p e s m args below meth c H locs ls Z hG hF hH hl
  have he := gp_w_at (G := G) ha.1
  rw [gp_e_arr (t := 2) ha.2] at he
  exact va_lald hG.1 hG.2.1 hG.2.2.2.2.2.2.2.2.1 hH.2.1 a 2 he rfl hi hd (kk G p e s m args below meth c H locs ls Z hG hF hH hl)
theorem gp_aldv {a t n : Nat} {i : Int32} {ty : FieldType} (ht : ∀ G, (gp_tys G)[t]? = some (G.2.2.1 t, ty)) (ht3 : 3 ≤ t) (hty : ty.isReference = true) (hd : decode y.2.1 pc = .ok (.aaload, 1)) (ha : gp_at X a (t + 13, n)) (hi : vp_in i n) (kk : Ev E y (pc + 1) L (va_rf (X.2.2.1 a i.toNatClampNeg) :: st) X u Q) : Ev E y pc L (.int i :: .ref a :: st) X u Q := by
  intro G p e s m args below meth c H locs ls Z hG hF hH hl
  have he := gp_w_at (G := G) ha.1
  obtain ⟨t', rfl⟩ : ∃ t', t = t' + 3 := ⟨t - 3, by omega⟩
  rw [gp_e_arr ha.2] at he
  have hlt : i.toNatClampNeg < n := Nat.not_le.mp fun q => hi (Or.inr q)
  have h1 := kk G p e s m args below meth c H locs ls Z hG hF hH hl
  have h2 : (va_rf (X.2.2.1 a i.toNatClampNeg) :: st).map (gp_v G) = va_rf (gp_o G (X.2.2.1 a i.toNatClampNeg)) :: st.map (gp_v G) := by rw [List.map_cons, gp_v_rf]
  rw [h2] at h1
  exact W.aald (v := va_rf (gp_o G (X.2.2.1 a i.toNatClampNeg))) (ty := ty) hG.1 hG.2.1 (hH.2.1 a _ he) ((hG.2.2.2.2.2.2.2.2.1.2 _ _ (ht G)).1 n (fun j => va_rf (gp_o G (X.2.2.1 a j)))) hty (fun q => by cases q) (by show ¬ (i < 0 ∨ (arrV _ _ _).slots.size ≤ _); rw [arrV_size]; exact hi) (by show (arrV _ _ _).slots[_]? = _; rw [arrV_read _ _ hlt]) rfl rfl hd h1
theorem ev_ald3 {a n j : Nat} {i : Int32} (hd : decode y.2.1 pc = .ok (.aaload, 1)) (ha : gp_at X a (16, n)) (hi : vp_in i n) (hj : X.2.2.1 a i.toNatClampNeg = some j) (kk : Ev E y (pc + 1) L (.ref j :: st) X u Q) : Ev E y pc L (.int i :: .ref a :: st) X u Q :=
  gp_aldv (t := 3) (ty := .object "GasTurn$Ring") (fun _ => rfl) (by decide) rfl hd ha hi (by rw [hj]; exact kk)
theorem ev_ald4 {a n j : Nat} {i : Int32} (hd : decode y.2.1 pc = .ok (.aaload, 1)) (ha : gp_at X a (17, n)) (hi : vp_in i n) (hj : X.2.2.1 a i.toNatClampNeg = some j) (kk : Ev E y (pc + 1) L (.ref j :: st) X u Q) : Ev E y pc L (.int i :: .ref a :: st) X u Q :=
  gp_aldv (t := 4) (ty := .object "GasTurn$Home") (fun _ => rfl) (by decide) rfl hd ha hi (by rw [hj]; exact kk)
theorem ev_ald5 {a n j : Nat} {i : Int32} (hd : decode y.2.1 pc = .ok (.aaload, 1)) (ha : gp_at X a (18, n)) (hi : vp_in i n) (hj : X.2.2.1 a i.toNatClampNeg = some j) (kk : Ev E y (pc + 1) L (.ref j :: st) X u Q) : Ev E y pc L (.int i :: .ref a :: st) X u Q :=
  gp_aldv (t := 5) (ty := .array .int) (fun _ => rfl) (by decide) rfl hd ha hi (by rw [hj]; exact kk)
theorem gp_arrset {G : gp_G} {X X' : gp_H} {a t n : Nat} (hk : X.2.1 a = (t + 13, n)) (h1 : X'.1 = X.1) (h2 : X'.2.1 a = (t + 13, n)) (h3 : ∀ j, j ≠ a → gp_e G X' j = gp_e G X j) : gp_w G X' = (gp_w G X).set a (G.2.2.2.1 + a, .inl (G.2.2.1 t, n, gp_ar G X' a t)) := by
  rw [gp_w_set h1 h3, gp_e_arr h2]
theorem gp_h_set {G : gp_G} {X' : gp_H} {s : State} {H H1 : Heap} {locs : List Loc} {a k : Nat} (hH : gp_h G X s H locs) (ha : a < X.1) (hX1 : X'.1 = X.1) (hX3 : ∀ j, j ≠ a → gp_e G X' j = gp_e G X j) (he : va_at (G.1, G.2.1) gp_cl (G.2.2.2.1 + a, gp_e G X' a) H1) (z : H1.size = H.size) (oq : ∀ q : Nat, q ≠ G.2.2.2.1 + a → H1[q]? = H[q]?) : gp_h G X' s H1 (locs ++ [⟨G.2.2.2.1 + a, k⟩]) := by
  refine ⟨by rw [z, hH.1, hX1], ?_, hH.2.2.put z oq (Nat.le_add_right _ _)⟩
  rw [gp_w_set hX1 hX3]
  exact hH.2.1.set (gp_w_D G X) (gp_w_at ha) he oq
theorem ev_iast {a n : Nat} {i v : Int32} (hd : decode y.2.1 pc = .ok (.iastore, 1)) (ha : gp_at X a (13, n)) (hi : vp_in i n) (kk : Ev E y (pc + 1) L st (gp_sI X a i.toNatClampNeg v) u Q) : Ev E y pc L (.int v :: .int i :: .ref a :: st) X u Q := by
  intro G p e s m args below meth c H locs ls Z hG hF hH hl
  have he := gp_w_at (G := G) ha.1
  rw [gp_e_arr (t := 0) ha.2] at he
  refine W.iast hG.1 hG.2.1 (hH.2.1 a _ he) ((hG.2.2.2.2.2.2.2.2.1.2 0 _ rfl).1 n (fun j => .int (X.2.2.2.1 a j))) (fun q => by cases q) (by show ¬ (i < 0 ∨ (arrV _ _ _).slots.size ≤ _); rw [arrV_size]; exact hi) rfl rfl hd fun H1 e1 z oq => ?_
  refine kk G p e s m args below meth c H1 _ ls Z hG hF (gp_h_set (X' := gp_sI X a i.toNatClampNeg v) hH ha.1 rfl (fun j hj => gp_e_sI hj) ?_ z oq) hl
  rw [gp_e_arr (X := gp_sI X a i.toNatClampNeg v) (t := 0) ha.2]
  show H1[G.2.2.2.1 + a]? = some (vp_cell _ _)
  rw [e1]
  show some ((arrV (G.2.2.1 0) n (fun j => Value.int (X.2.2.2.1 a j))).setSlot i.toNatClampNeg (.int v)) = some (arrV (G.2.2.1 0) n (fun j => Value.int (gp_up X.2.2.2.1 a i.toNatClampNeg v a j)))
  rw [arrV_store]
  congr 2
  funext q
  show updV _ _ _ q = Value.int (gp_up X.2.2.2.1 a i.toNatClampNeg v a q)
  rw [gp_up_row]
  by_cases hq : q = i.toNatClampNeg
  · subst hq
    simp [updV]
  · simp [updV, hq]
theorem ev_zast {a n : Nat} {i v w : Int32} (hd : decode y.2.1 pc = .ok (.bastore, 1)) (ha : gp_at X a (14, n)) (hi : vp_in i n) (hw : narrow .boolean (.int v) = .int w) (kk : Ev E y (pc + 1) L st (gp_sI X a i.toNatClampNeg w) u Q) : Ev E y pc L (.int v :: .int i :: .ref a :: st) X u Q := by
  intro G p e s m args below meth c H locs ls Z hG hF hH hl
  have he := gp_w_at (G := G) ha.1
  rw [gp_e_arr (t := 1) ha.2] at he
  refine W.zast hG.1 hG.2.1 (hH.2.1 a _ he) ((hG.2.2.2.2.2.2.2.2.1.2 1 _ rfl).1 n (fun j => .int (X.2.2.2.1 a j))) (fun q => by cases q) (by show ¬ (i < 0 ∨ (arrV _ _ _).slots.size ≤ _); rw [arrV_size]; exact hi) rfl rfl hd fun H1 e1 z oq => ?_
  refine kk G p e s m args below meth c H1 _ ls Z hG hF (gp_h_set (X' := gp_sI X a i.toNatClampNeg w) hH ha.1 rfl (fun j hj => gp_e_sI hj) ?_ z oq) hl
  rw [gp_e_arr (X := gp_sI X a i.toNatClampNeg w) (t := 1) ha.2]
  show H1[G.2.2.2.1 + a]? = some (vp_cell _ _)
  rw [e1, hw]
  show some ((arrV (G.2.2.1 1) n (fun j => Value.int (X.2.2.2.1 a j))).setSlot i.toNatClampNeg (.int w)) = some (arrV (G.2.2.1 1) n (fun j => Value.int (gp_up X.2.2.2.1 a i.toNatClampNeg w a j)))
  rw [arrV_store]
  congr 2
  funext q
  show updV _ _ _ q = Value.int (gp_up X.2.2.2.1 a i.toNatClampNeg w a q)
  rw [gp_up_row]
  by_cases hq : q = i.toNatClampNeg
  · subst hq
    simp [updV]
  · simp [updV, hq]
theorem ev_last {a n : Nat} {i : Int32} {v : Int64} (hd : decode y.2.1 pc = .ok (.lastore, 1)) (ha : gp_at X a (15, n)) (hi : vp_in i n) (kk : Ev E y (pc + 1) L st (gp_sL X a i.toNatClampNeg v) u Q) : Ev E y pc L (.long v :: .int i :: .ref a :: st) X u Q := by
  intro G p e s m args below meth c H locs ls Z hG hF hH hl
  have he := gp_w_at (G := G) ha.1
  rw [gp_e_arr (t := 2) ha.2] at he
  refine W.last hG.1 hG.2.1 (hH.2.1 a _ he) ((hG.2.2.2.2.2.2.2.2.1.2 2 _ rfl).1 n (fun j => .long (X.2.2.2.2 a j))) (fun q => by cases q) (by show ¬ (i < 0 ∨ (arrV _ _ _).slots.size ≤ _); rw [arrV_size]; exact hi) rfl rfl hd fun H1 e1 z oq => ?_
  refine kk G p e s m args below meth c H1 _ ls Z hG hF (gp_h_set (X' := gp_sL X a i.toNatClampNeg v) hH ha.1 rfl (fun j hj => gp_e_sL hj) ?_ z oq) hl
  rw [gp_e_arr (X := gp_sL X a i.toNatClampNeg v) (t := 2) ha.2]
  show H1[G.2.2.2.1 + a]? = some (vp_cell _ _)
  rw [e1]
  show some ((arrV (G.2.2.1 2) n (fun j => Value.long (X.2.2.2.2 a j))).setSlot i.toNatClampNeg (.long v)) = some (arrV (G.2.2.1 2) n (fun j => Value.long (gp_up X.2.2.2.2 a i.toNatClampNeg v a j)))
  rw [arrV_store]
  congr 2
  funext q
  show updV _ _ _ q = Value.long (gp_up X.2.2.2.2 a i.toNatClampNeg v a q)
  rw [gp_up_row]
  by_cases hq : q = i.toNatClampNeg
  · subst hq
    simp [updV]
  · simp [updV, hq]
theorem gp_astv {a t n j ci z : Nat} {i : Int32} {C : String} (ht : ∀ G, (gp_tys G)[t]? = some (G.2.2.1 t, .object C)) (ht3 : 3 ≤ t) (hd : decode y.2.1 pc = .ok (.aastore, 1)) (ha : gp_at X a (t + 13, n)) (hi : vp_in i n) (hj : gp_at X j (ci, z)) (hci : ci < 13) (hC : gp_R ci = C ∨ Cond.castable (gp_R ci) C ∈ lw_n) (kk : Ev E y (pc + 1) L st (gp_sR X a i.toNatClampNeg (some j)) u Q) : Ev E y pc L (.ref j :: .int i :: .ref a :: st) X u Q := by
  intro G p e s m args below meth c H locs ls Z hG hF hH hl
  have he := gp_w_at (G := G) ha.1
  obtain ⟨t', rfl⟩ : ∃ t', t = t' + 3 := ⟨t - 3, by omega⟩
  rw [gp_e_arr ha.2] at he
  have hk := hG.2.2.2.2.2.2.2.2.1
  have hej := gp_w_at (G := G) hj.1
  rw [gp_e_obj hj.2 hci] at hej
  have hr : va_Any C s H (G.2.2.2.1 + j) := va_rAny hk hH.2.1 hej (gp_cl_at ci hci) (fun comp c0 h1 h2 => by
    rcases hC with hC | hC
    · have hk2 := (hk.1 ci _ (gp_cl_at ci hci)).2
      have h2' : s.vm.findClass (gp_R ci) = some c0 := h2
      rw [hC] at h2'
      have e0 : c0 = comp := Option.some.inj (h2'.symm.trans h1)
      subst e0
      have e1 : c0 = G.1 ci := Option.some.inj (h2.symm.trans hk2.1)
      rw [e1]
      exact va_assign hk2
    · exact vb_asgC (hG.2.2.2.2.2.2.2.2.2.2.2.2.2.2.2.1 _ hC) comp c0 h1 h2)
  have hlt : i.toNatClampNeg < n := Nat.not_le.mp fun q => hi (Or.inr q)
  have h0 : ¬ i < 0 := fun q => hi (Or.inl q)
  obtain ⟨cellV, g1, g3, ⟨kC, hkC⟩, hasg⟩ := hr
  obtain ⟨kA, comp, k1, k2, k3, -⟩ := (hk.2 _ _ (ht G)).2
  obtain ⟨kE, hkE, -⟩ := Vm.findClass_spec k3
  refine W.aast hG.1 hG.2.1 (hH.2.1 a _ he) (fun q h => by cases h) (fun h => by cases h) k1 k2 rfl hkE ⟨h0, by show _ < (arrV _ _ _).slots.size; rw [arrV_size]; exact hlt⟩ g1 (fun q h => by rw [h] at g3; cases g3) hkC (hasg _ k3) rfl rfl hd fun H1 e1 z1 oq => ?_
  refine kk G p e s m args below meth c H1 _ ls Z hG hF (gp_h_set (X' := gp_sR X a i.toNatClampNeg (some j)) hH ha.1 rfl (fun j hj => gp_e_sR hj) ?_ z1 oq) hl
  rw [gp_e_arr (X := gp_sR X a i.toNatClampNeg (some j)) ha.2]
  show H1[G.2.2.2.1 + a]? = some (vp_cell _ _)
  rw [e1]
  show some ((arrV (G.2.2.1 (t' + 3)) n (fun q => va_rf (gp_o G (X.2.2.1 a q)))).setSlot i.toNatClampNeg (.ref (G.2.2.2.1 + j))) = some (arrV (G.2.2.1 (t' + 3)) n (fun q => va_rf (gp_o G (gp_up X.2.2.1 a i.toNatClampNeg (some j) a q))))
  rw [arrV_store]
  congr 2
  funext q
  show updV _ _ _ q = va_rf (gp_o G (gp_up X.2.2.1 a i.toNatClampNeg (some j) a q))
  rw [gp_up_row]
  by_cases hq : q = i.toNatClampNeg
  · subst hq
    simp [updV, va_rf, gp_o]
  · simp [updV, hq]
theorem ev_ast3 {a n j ci z : Nat} {i : Int32} (hd : decode y.2.1 pc = .ok (.aastore, 1)) (ha : gp_at X a (16, n)) (hi : vp_in i n) (hj : gp_at X j (ci, z)) (hci : ci < 13) (hC : gp_R ci = "GasTurn$Ring" ∨ Cond.castable (gp_R ci) "GasTurn$Ring" ∈ lw_n) (kk : Ev E y (pc + 1) L st (gp_sR X a i.toNatClampNeg (some j)) u Q) : Ev E y pc L (.ref j :: .int i :: .ref a :: st) X u Q :=
  gp_astv (t := 3) (C := "GasTurn$Ring") (fun _ => rfl) (by decide) hd ha hi hj hci hC kk
theorem ev_ast4 {a n j ci z : Nat} {i : Int32} (hd : decode y.2.1 pc = .ok (.aastore, 1)) (ha : gp_at X a (17, n)) (hi : vp_in i n) (hj : gp_at X j (ci, z)) (hci : ci < 13) (hC : gp_R ci = "GasTurn$Home" ∨ Cond.castable (gp_R ci) "GasTurn$Home" ∈ lw_n) (kk : Ev E y (pc + 1) L st (gp_sR X a i.toNatClampNeg (some j)) u Q) : Ev E y pc L (.ref j :: .int i :: .ref a :: st) X u Q :=
  gp_astv (t := 4) (C := "GasTurn$Home") (fun _ => rfl) (by decide) hd ha hi hj hci hC kk
theorem ev_alen {a t n : Nat} {v : Int32} (ht : t < 6) (hd : decode y.2.1 pc = .ok (.arraylength, 1)) (ha : gp_at X a (t + 13, n)) (hv : Int32.ofNat n = v) (kk : Ev E y (pc + 1) L (.int v :: st) X u Q) : Ev E y pc L (.ref a :: st) X u Q := by
  intro G p e s m args below meth c H locs ls Z hG hF hH hl
  have he := gp_w_at (G := G) ha.1
  rw [gp_e_arr ha.2] at he
  obtain ⟨ty, hty⟩ : ∃ ty, (gp_tys G)[t]? = some (G.2.2.1 t, ty) := by
    match t, ht with
    | 0, _ => exact ⟨_, rfl⟩
    | 1, _ => exact ⟨_, rfl⟩
    | 2, _ => exact ⟨_, rfl⟩
    | 3, _ => exact ⟨_, rfl⟩
    | 4, _ => exact ⟨_, rfl⟩
    | 5, _ => exact ⟨_, rfl⟩
  exact va_alen hG.1 hG.2.1 hG.2.2.2.2.2.2.2.2.1 hH.2.1 a t he hty hv hd (kk G p e s m args below meth c H locs ls Z hG hF hH hl)
/-! making cells -/
theorem gp_h_push {G : gp_G} {s : State} {H H1 : Heap} {locs : List Loc} {q : Nat × Nat} (hH : gp_h G X s H locs) (he : va_at (G.1, G.2.1) gp_cl (H.size, gp_e G (gp_nw X q) X.1) H1) (z : H1.size = H.size + 1) (oq : ∀ q : Nat, q < H.size → H1[q]? = H[q]?) : gp_h G (gp_nw X q) s H1 locs := by
  refine ⟨by rw [z, hH.1]; rfl, ?_, ⟨by rw [z]; exact Nat.le_succ_of_le hH.2.2.1, fun x h1 h2 => (oq x (Nat.lt_of_lt_of_le h1 hH.2.2.1)).trans (hH.2.2.2.1 x h1 h2), hH.2.2.2.2⟩⟩
  rw [gp_w_push (X' := gp_nw X q) rfl (fun j hj => gp_e_nw (Nat.ne_of_lt hj))]
  refine (hH.2.1.kept (fun k x hx => oq x.1 ((hH.2.1 k x hx).lt))).app (fun k x hx => ?_)
  have hz : k < 1 := (List.getElem?_eq_some_iff.mp hx).1
  rw [show k = 0 by omega] at hx
  cases hx
  rw [← hH.1]
  exact he
theorem ev_new {idx ci N : Nat} (hd : decode y.2.1 pc = .ok (.new idx, 3)) (hci : ci < 13) (hN : gp_nf ci = N) (hcl : Cond.classLink y.1.cls idx (gp_R ci) ∈ lw_g) (hin : Cond.instantiable (gp_R ci) N ∈ lw_g) (hini : Cond.initialized (gp_R ci) ∈ lw_g) (hu : u.1 + 1 ≤ y.2.2.2.2.cells ∧ u.2 + N ≤ y.2.2.2.2.slots)
    (kk : Ev E y (pc + 3) L (.ref X.1 :: st) (gp_nw X (ci, 0)) (u.1 + 1, u.2 + N) Q) : Ev E y pc L st X u Q := by
  subst hN
  intro G p e s m args below meth c H locs ls Z hG hF hH hl
  have hts := hG.2.2.2.2.2.1
  have hKn := hG.2.2.2.2.2.2.2.2.1.1 ci _ (gp_cl_at ci hci)
  refine W.newcK hG.1 hG.2.1 hG.2.2.2.2.1 (hts _ hcl) (hts _ hin) (hts _ hini) rfl hd hu.1 hu.2 hKn.2.1 rfl fun H1 kC hkC e1 z1 o1 => ?_
  have h1 := kk G p e s m args below meth c H1 locs ls Z hG hF (gp_h_push (q := (ci, 0)) hH ?_ z1 o1) hl
  · have e2 : ((Value.ref X.1 :: st).map (gp_v G)) = .ref H.size :: st.map (gp_v G) := by rw [hH.1]; rfl
    rw [e2] at h1
    exact h1
  · rw [gp_e_obj (gp_nw_kind X (ci, 0)) hci]
    refine ⟨_, gp_cl_at ci hci, (u_born (gp_ty ci) hts (gp_cl_g ci hci) hKn hkC e1 (gp_cl_ty ci hci)).to (fun j hj => ?_)⟩
    show defaultValue (gp_ty ci j) = vp_V ((List.range (gp_nf ci)).map _) j
    rw [gp_dv ci hci j hj]
    show _ = List.getD _ _ _
    rw [List.getD_eq_getElem?_getD, gp_fs_at hj]
    show _ = gp_fv G (gp_nw X (ci, 0)) X.1 ci j
    unfold gp_fv
    have a1 : (gp_nw X (ci, 0)).2.2.1 X.1 = fun _ => none := if_pos rfl
    have a2 : (gp_nw X (ci, 0)).2.2.2.1 X.1 = fun _ => 0 := if_pos rfl
    rw [a1, a2]
    rfl
theorem gp_newav {t N : Nat} {n : Int32} {at0 : ArrayType} {ty : FieldType} (ht : ∀ G, (gp_tys G)[t]? = some (G.2.2.1 t, ty)) (hty : newarray.typeOf at0 = ty) (hca : ∀ (s : State) (cA : ClassId), va_RA s cA ty → s.vm.findClass ("[" ++ ty.toString) = some cA) (hw : Cond.arrayClass ty ∈ lw_g)
    (har : ∀ (G : gp_G) (cA : ClassId), vp_cell cA (N, gp_ar G (gp_nw X (t + 13, N)) X.1 t) = arrV cA N (fun _ => defaultValue ty)) (hd : decode y.2.1 pc = .ok (.newarray at0, 2)) (hn : ¬ n < 0) (hN : n.toNatClampNeg = N) (hbytes : N * componentBytes ty ≤ 536870912) (hu : u.1 + 1 ≤ y.2.2.2.2.cells ∧ u.2 + N ≤ y.2.2.2.2.slots)
    (kk : Ev E y (pc + 2) L (.ref X.1 :: st) (gp_nw X (t + 13, N)) (u.1 + 1, u.2 + N) Q) : Ev E y pc L (.int n :: st) X u Q := by
  subst hty
  intro G p e s m args below meth c H locs ls Z hG hF hH hl
  have hts := hG.2.2.2.2.2.1
  refine va_newaK hG.1 hG.2.1 (hts _ hw) rfl hd rfl hn hN hbytes hu.1 hu.2 rfl fun H1 cA e1 z1 o1 hAr hNm => ?_
  have hcA : cA = G.2.2.1 t := Option.some.inj (hNm.symm.trans (hca s _ (hG.2.2.2.2.2.2.2.2.1.2 _ _ (ht G)).2))
  subst hcA
  have h1 := kk G p e s m args below meth c H1 locs ls Z hG hF (gp_h_push (q := (t + 13, N)) hH ?_ z1 o1) hl
  · have e2 : ((Value.ref X.1 :: st).map (gp_v G)) = .ref H.size :: st.map (gp_v G) := by rw [hH.1]; rfl
    rw [e2] at h1
    exact h1
  · rw [gp_e_arr (gp_nw_kind X (t + 13, N))]
    show H1[H.size]? = some (vp_cell _ _)
    rw [har]
    exact e1
theorem ev_newI {N : Nat} {n : Int32} (hw : Cond.arrayClass .int ∈ lw_g) (hd : decode y.2.1 pc = .ok (.newarray .int, 2)) (hn : ¬ n < 0) (hN : n.toNatClampNeg = N) (hb : N * 4 ≤ 536870912) (hu : u.1 + 1 ≤ y.2.2.2.2.cells ∧ u.2 + N ≤ y.2.2.2.2.slots)
    (kk : Ev E y (pc + 2) L (.ref X.1 :: st) (gp_nw X (13, N)) (u.1 + 1, u.2 + N) Q) : Ev E y pc L (.int n :: st) X u Q :=
  gp_newav (t := 0) (ty := .int) (fun _ => rfl) rfl (fun _ _ h => h) hw (fun G cA => by
    show arrV cA N (fun j => Value.int ((gp_nw X (13, N)).2.2.2.1 X.1 j)) = _
    have a2 : (gp_nw X (13, N)).2.2.2.1 X.1 = fun _ => 0 := if_pos rfl
    rw [a2]; rfl) hd hn hN hb hu kk
theorem ev_newZ {N : Nat} {n : Int32} (hw : Cond.arrayClass .boolean ∈ lw_g) (hd : decode y.2.1 pc = .ok (.newarray .boolean, 2)) (hn : ¬ n < 0) (hN : n.toNatClampNeg = N) (hb : N * componentBytes .boolean ≤ 536870912) (hu : u.1 + 1 ≤ y.2.2.2.2.cells ∧ u.2 + N ≤ y.2.2.2.2.slots)
    (kk : Ev E y (pc + 2) L (.ref X.1 :: st) (gp_nw X (14, N)) (u.1 + 1, u.2 + N) Q) : Ev E y pc L (.int n :: st) X u Q :=
  gp_newav (t := 1) (ty := .boolean) (fun _ => rfl) rfl (fun _ _ h => h) hw (fun G cA => by
    show arrV cA N (fun j => Value.int ((gp_nw X (14, N)).2.2.2.1 X.1 j)) = _
    have a2 : (gp_nw X (14, N)).2.2.2.1 X.1 = fun _ => 0 := if_pos rfl
    rw [a2]; rfl) hd hn hN hb hu kk
theorem ev_newL {N : Nat} {n : Int32} (hw : Cond.arrayClass .long ∈ lw_g) (hd : decode y.2.1 pc = .ok (.newarray .long, 2)) (hn : ¬ n < 0) (hN : n.toNatClampNeg = N) (hb : N * componentBytes .long ≤ 536870912) (hu : u.1 + 1 ≤ y.2.2.2.2.cells ∧ u.2 + N ≤ y.2.2.2.2.slots)
    (kk : Ev E y (pc + 2) L (.ref X.1 :: st) (gp_nw X (15, N)) (u.1 + 1, u.2 + N) Q) : Ev E y pc L (.int n :: st) X u Q :=
  gp_newav (t := 2) (ty := .long) (fun _ => rfl) rfl (fun _ _ h => h) hw (fun G cA => by
    show arrV cA N (fun j => Value.long ((gp_nw X (15, N)).2.2.2.2 X.1 j)) = _
    have a2 : (gp_nw X (15, N)).2.2.2.2 X.1 = fun _ => 0 := if_pos rfl
    rw [a2]; rfl) hd hn hN hb hu kk
theorem gp_newqv {t N idx : Nat} {n : Int32} {C : String} (ht : ∀ G, (gp_tys G)[t]? = some (G.2.2.1 t, .object C)) (ht3 : 3 ≤ t) (hcl : Cond.classLink y.1.cls idx C ∈ lw_g) (hao : ∀ s, gp_N s → va_AO C s) (hd : decode y.2.1 pc = .ok (.anewarray idx, 3)) (hn : ¬ n < 0) (hN : n.toNatClampNeg = N) (hb : N * 4 ≤ 536870912) (hu : u.1 + 1 ≤ y.2.2.2.2.cells ∧ u.2 + N ≤ y.2.2.2.2.slots)
    (kk : Ev E y (pc + 3) L (.ref X.1 :: st) (gp_nw X (t + 13, N)) (u.1 + 1, u.2 + N) Q) : Ev E y pc L (.int n :: st) X u Q := by
  subst hN
  intro G p e s m args below meth c H locs ls Z hG hF hH hl
  have hts := hG.2.2.2.2.2.1
  obtain ⟨t', rfl⟩ : ∃ t', t = t' + 3 := ⟨t - 3, by omega⟩
  refine W.anew hG.1 hG.2.1 hG.2.2.2.2.1 (hts _ hcl) (va_AO.use (hao s hG.2.2.2.2.2.2.2.2.2.2.2.2.2.2.2)) rfl hd rfl hn hb hu.1 hu.2 fun cA kA comp f1 f2 f3 f4 => ?_
  obtain ⟨-, -, -, -, -, k4⟩ := (hG.2.2.2.2.2.2.2.2.1.2 _ _ (ht G)).2
  have hcA : cA = G.2.2.1 (t' + 3) := Option.some.inj (f1.symm.trans k4)
  subst hcA
  have h1 := kk G p e s m args below meth c (H.push ({ cls := G.2.2.1 (t' + 3), slots := Array.replicate n.toNatClampNeg .null, vm := .none } : Cell)) locs ls Z hG hF (gp_h_push (q := (t' + 3 + 13, n.toNatClampNeg)) hH ?_ (by rw [Array.size_push]) (fun q hq => by rw [Array.getElem?_push, if_neg (Nat.ne_of_lt hq)])) hl
  · have e2 : ((Value.ref X.1 :: st).map (gp_v G)) = .ref H.size :: st.map (gp_v G) := by rw [hH.1]; rfl
    rw [e2] at h1
    exact h1
  · rw [gp_e_arr (gp_nw_kind X (t' + 3 + 13, n.toNatClampNeg))]
    show (H.push _)[H.size]? = some (vp_cell _ _)
    rw [Array.getElem?_push_size, arrV_new]
    show some _ = some (arrV _ _ (fun j => va_rf (gp_o G ((gp_nw X (t' + 3 + 13, n.toNatClampNeg)).2.2.1 X.1 j))))
    have a2 : (gp_nw X (t' + 3 + 13, n.toNatClampNeg)).2.2.1 X.1 = fun _ => none := if_pos rfl
    rw [a2]
    rfl
theorem ev_newq3 {N idx : Nat} {n : Int32} (hcl : Cond.classLink y.1.cls idx "GasTurn$Ring" ∈ lw_g) (hd : decode y.2.1 pc = .ok (.anewarray idx, 3)) (hn : ¬ n < 0) (hN : n.toNatClampNeg = N) (hb : N * 4 ≤ 536870912) (hu : u.1 + 1 ≤ y.2.2.2.2.cells ∧ u.2 + N ≤ y.2.2.2.2.slots)
    (kk : Ev E y (pc + 3) L (.ref X.1 :: st) (gp_nw X (16, N)) (u.1 + 1, u.2 + N) Q) : Ev E y pc L (.int n :: st) X u Q :=
  gp_newqv (t := 3) (C := "GasTurn$Ring") (fun _ => rfl) (by decide) hcl (fun _ h => h.2.2.1) hd hn hN hb hu kk
theorem ev_newq4 {N idx : Nat} {n : Int32} (hcl : Cond.classLink y.1.cls idx "GasTurn$Home" ∈ lw_g) (hd : decode y.2.1 pc = .ok (.anewarray idx, 3)) (hn : ¬ n < 0) (hN : n.toNatClampNeg = N) (hb : N * 4 ≤ 536870912) (hu : u.1 + 1 ≤ y.2.2.2.2.cells ∧ u.2 + N ≤ y.2.2.2.2.slots)
    (kk : Ev E y (pc + 3) L (.ref X.1 :: st) (gp_nw X (17, N)) (u.1 + 1, u.2 + N) Q) : Ev E y pc L (.int n :: st) X u Q :=
  gp_newqv (t := 4) (C := "GasTurn$Home") (fun _ => rfl) (by decide) hcl (fun _ h => h.2.2.2.1) hd hn hN hb hu kk
/-! instanceof -/
theorem ev_instNo {idx a ci z : Nat} {nm : String} (hd : decode y.2.1 pc = .ok (.instanceof idx, 3)) (ha : gp_at X a (ci, z)) (hci : ci < 13) (hl0 : Cond.classLink y.1.cls idx nm ∈ lw_g) (hC : (gp_R ci, nm) ∈ lw_c) (kk : Ev E y (pc + 3) L (.int 0 :: st) X u Q) : Ev E y pc L (.ref a :: st) X u Q := by
  intro G p e s m args below meth c H locs ls Z hG hF hH hl
  have he := gp_w_at (G := G) ha.1
  rw [gp_e_obj ha.2 hci] at he
  exact va_instNo hG.1 hG.2.1 hG.2.2.2.2.1 (hG.2.2.2.2.2.1 _ hl0) (hG.2.2.2.2.2.2.2.2.2.2.2.2.2.2.2.2.1 _ hC) (va_recv hG.2.2.2.2.2.2.2.2.1 hH.2.1 (gp_cl_at ci hci) he) hd (kk G p e s m args below meth c H locs ls Z hG hF hH hl)
theorem ev_instY {idx a ci z : Nat} {nm : String} (hd : decode y.2.1 pc = .ok (.instanceof idx, 3)) (ha : gp_at X a (ci, z)) (hci : ci < 13) (hl0 : Cond.classLink y.1.cls idx nm ∈ lw_g) (hC : Cond.castable (gp_R ci) nm ∈ lw_n) (kk : Ev E y (pc + 3) L (.int 1 :: st) X u Q) : Ev E y pc L (.ref a :: st) X u Q := by
  intro G p e s m args below meth c H locs ls Z hG hF hH hl
  have he := gp_w_at (G := G) ha.1
  rw [gp_e_obj ha.2 hci] at he
  exact va_instY hG.1 hG.2.1 hG.2.2.2.2.1 (hG.2.2.2.2.2.1 _ hl0) (hG.2.2.2.2.2.2.2.2.2.2.2.2.2.2.2.1 _ hC) (va_recv hG.2.2.2.2.2.2.2.2.1 hH.2.1 (gp_cl_at ci hci) he) hd (kk G p e s m args below meth c H locs ls Z hG hF hH hl)
theorem ev_instS {idx a ci z : Nat} (hd : decode y.2.1 pc = .ok (.instanceof idx, 3)) (ha : gp_at X a (ci, z)) (hci : ci < 13) (hl0 : Cond.classLink y.1.cls idx (gp_R ci) ∈ lw_g) (kk : Ev E y (pc + 3) L (.int 1 :: st) X u Q) : Ev E y pc L (.ref a :: st) X u Q := by
  intro G p e s m args below meth c H locs ls Z hG hF hH hl
  have he := gp_w_at (G := G) ha.1
  rw [gp_e_obj ha.2 hci] at he
  exact va_instS hG.1 hG.2.1 hG.2.2.2.2.1 (hG.2.2.2.2.2.1 _ hl0) (hG.2.2.2.2.2.2.2.2.1.1 ci _ (gp_cl_at ci hci)).2 (va_recv hG.2.2.2.2.2.2.2.2.1 hH.2.1 (gp_cl_at ci hci) he) hd (kk G p e s m args below meth c H locs ls Z hG hF hH hl)
end EVH
