/-! new int[N][K] -/
def gp_mn (X : gp_H) (N K : Nat) : gp_H := (X.1 + 1 + N, (fun i => if i = X.1 then (18, N) else if X.1 < i ∧ i < X.1 + 1 + N then (13, K) else X.2.1 i), (fun i => if i = X.1 then (fun j => if j < N then some (X.1 + 1 + j) else none) else if X.1 < i ∧ i < X.1 + 1 + N then (fun _ => none) else X.2.2.1 i), (fun i => if X.1 ≤ i ∧ i < X.1 + 1 + N then (fun _ => 0) else X.2.2.2.1 i), (fun i => if X.1 ≤ i ∧ i < X.1 + 1 + N then (fun _ => 0) else X.2.2.2.2 i))
theorem gp_outer (c : ClassId) (N h0 : Nat) : ∀ i : Nat, Jvm.Free.Multi.outerC c N h0 i = arrV c N (fun j => va_rf (if j < i then some (h0 + 1 + j) else none))
  | 0 => by
    show ({ cls := c, slots := Array.replicate N .null, vm := .none } : Cell) = _
    rw [arrV_new]
    exact congrArg (arrV c N) (funext fun j => by simp [va_rf])
  | i + 1 => by
    show (Jvm.Free.Multi.outerC c N h0 i).setSlot i (.ref (h0 + 1 + i)) = _
    rw [gp_outer c N h0 i, arrV_store]
    refine congrArg (arrV c N) (funext fun j => ?_)
    by_cases e : j = i
    · subst e; simp [updV, va_rf]
    · by_cases h : j < i
      · simp [updV, e, h, Nat.lt_succ_of_lt h]
      · simp [updV, e, h, show ¬ j < i + 1 by omega]
theorem ev_mna {E : gp_E} {y : gp_M} {pc : Nat} {L : List (Nat × Value)} {st : List Value} {X : gp_H} {u : Nat × Nat} {Q : Option Value → gp_H → Prop} {idx N K : Nat} {n k : Int32} (hd : decode y.2.1 pc = .ok (.multianewarray idx 2, 4)) (hcl : Cond.classLink y.1.cls idx "[[I" ∈ lw_g) (hw : Cond.arrayClass .int ∈ lw_g) (hn : ¬ n < 0) (hk : ¬ k < 0) (hN : n.toNatClampNeg = N) (hK : k.toNatClampNeg = K)
    (hb1 : N * 4 ≤ 536870912) (hb2 : K * 4 ≤ 536870912) (hu : u.1 + (1 + N) ≤ y.2.2.2.2.cells ∧ u.2 + (N + N * K) ≤ y.2.2.2.2.slots) (kk : Ev E y (pc + 4) L (.ref X.1 :: st) (gp_mn X N K) (u.1 + 1 + N, u.2 + N + N * K) Q) : Ev E y pc L (.int k :: .int n :: st) X u Q := by
  subst hN
  subst hK
  intro G p e s m args below meth c H locs ls Z hG hF hH hl
  have hts := hG.2.2.2.2.2.1
  intro T hT XX
  obtain ⟨vm₁, cA, comp, -, fA, fC, -, -, X', step⟩ := XX.multianewarray2F hG.1 (ty := .int) hG.2.2.2.2.1 (hts _ hcl) (hG.2.2.2.2.2.2.2.2.2.2.2.2.2.2.2.2.2.2.2 : (Cond.arrayOver (.array .int)).before args s = true) (hts _ hw) (g := F0 m pc ls (.int k :: .int n :: st.map (gp_v G))) rfl (by rw [hG.2.1]; exact hd) rfl hn hk hb1 hb2 (by omega) rfl rfl hu.1 hu.2
  have hKK := hG.2.2.2.2.2.2.2.2.1.2
  have e5 : cA = G.2.2.1 5 := Option.some.inj (fA.symm.trans (hKK 5 _ (rfl : (gp_tys G)[5]? = some (G.2.2.1 5, .array .int))).2)
  have e0 : comp = G.2.2.1 0 := Option.some.inj (fC.symm.trans (hKK 0 _ (rfl : (gp_tys G)[0]? = some (G.2.2.1 0, .int))).2)
  subst e5
  subst e0
  generalize hFF : Jvm.Free.Multi.fill (T.setVm vm₁) (G.2.2.1 5) (G.2.2.1 0) n.toNatClampNeg k.toNatClampNeg (defaultValue .int) n.toNatClampNeg = F at X' step
  have hTh : (T.setVm vm₁).heap = H := hT
  obtain ⟨f1, f2, -, -⟩ := Jvm.Free.Multi.fill_facts (T.setVm vm₁) (G.2.2.1 5) (G.2.2.1 0) n.toNatClampNeg k.toNatClampNeg (defaultValue .int) n.toNatClampNeg
  rw [hFF, hTh] at f1 f2
  have hold : ∀ x : Nat, x < H.size → F.heap[x]? = H[x]? := fun x hx => by
    have := Jvm.Free.Multi.fill_old (T.setVm vm₁) (G.2.2.1 5) (G.2.2.1 0) n.toNatClampNeg k.toNatClampNeg (defaultValue .int) (a := x) (by rw [hTh]; exact hx) n.toNatClampNeg
    rw [hFF, hTh] at this
    exact this
  have hrow : ∀ j : Nat, j < n.toNatClampNeg → F.heap[H.size + 1 + j]? = some (arrV (G.2.2.1 0) k.toNatClampNeg (fun _ => .int 0)) := fun j hj => by
    have := Jvm.Free.Multi.fill_inner (T.setVm vm₁) (G.2.2.1 5) (G.2.2.1 0) n.toNatClampNeg k.toNatClampNeg (defaultValue .int) n.toNatClampNeg j hj
    rw [hFF, hTh] at this
    rw [this]
    exact congrArg some (arrV_new (G.2.2.1 0) k.toNatClampNeg (.int 0))
  rw [gp_outer] at f2
  have hsz := hH.1
  have hh : gp_h G (gp_mn X n.toNatClampNeg k.toNatClampNeg) s F.heap locs := by
    refine ⟨by rw [f1, hsz]; show _ = G.2.2.2.1 + (X.1 + 1 + n.toNatClampNeg); omega, fun i q hq => ?_, ⟨by rw [f1]; have := hH.2.2.1; omega, fun x h1 h2 => (hold x (Nat.lt_of_lt_of_le h1 hH.2.2.1)).trans (hH.2.2.2.1 x h1 h2), hH.2.2.2.2⟩⟩
    obtain ⟨hlt, rfl⟩ := gp_w_of hq
    have hlt' : i < X.1 + 1 + n.toNatClampNeg := hlt
    by_cases c1 : i < X.1
    · have h1 : (gp_mn X n.toNatClampNeg k.toNatClampNeg).2.1 i = X.2.1 i := by
        show (if _ then _ else if _ then _ else _) = _
        rw [if_neg (by omega), if_neg (by omega)]
      have h2 : (gp_mn X n.toNatClampNeg k.toNatClampNeg).2.2.1 i = X.2.2.1 i := by
        show (if _ then _ else if _ then _ else _) = _
        rw [if_neg (by omega), if_neg (by omega)]
      have h3 : (gp_mn X n.toNatClampNeg k.toNatClampNeg).2.2.2.1 i = X.2.2.2.1 i := by
        show (if _ then _ else _) = _
        rw [if_neg (by omega)]
      have h4 : (gp_mn X n.toNatClampNeg k.toNatClampNeg).2.2.2.2 i = X.2.2.2.2 i := by
        show (if _ then _ else _) = _
        rw [if_neg (by omega)]
      have hea : ∀ t, gp_ar G (gp_mn X n.toNatClampNeg k.toNatClampNeg) i t = gp_ar G X i t := fun t => match t with
        | 0 => by show Sum.inl ((gp_mn X n.toNatClampNeg k.toNatClampNeg).2.2.2.1 i) = _; rw [h3]; rfl
        | 1 => by show Sum.inl ((gp_mn X n.toNatClampNeg k.toNatClampNeg).2.2.2.1 i) = _; rw [h3]; rfl
        | 2 => by show Sum.inr (Sum.inl ((gp_mn X n.toNatClampNeg k.toNatClampNeg).2.2.2.2 i)) = _; rw [h4]; rfl
        | t + 3 => by
          show Sum.inr (Sum.inr (Sum.inr (Sum.inr (fun j => gp_o G ((gp_mn X n.toNatClampNeg k.toNatClampNeg).2.2.1 i j))))) = _
          rw [h2]; rfl
      have hef : ∀ ci, gp_fv G (gp_mn X n.toNatClampNeg k.toNatClampNeg) i ci = gp_fv G X i ci := fun ci => funext fun j => by
        unfold gp_fv
        rw [h2, h3]
      have he : gp_e G (gp_mn X n.toNatClampNeg k.toNatClampNeg) i = gp_e G X i := by
        unfold gp_e
        rw [h1, hea, hef]
      rw [he]
      have := hH.2.1 i _ (gp_w_at c1)
      exact this.kept (hold _ (this.lt))
    · by_cases c2 : i = X.1
      · subst c2
        have h1 : (gp_mn X n.toNatClampNeg k.toNatClampNeg).2.1 X.1 = (5 + 13, n.toNatClampNeg) := if_pos rfl
        have h2 : (gp_mn X n.toNatClampNeg k.toNatClampNeg).2.2.1 X.1 = fun j => if j < n.toNatClampNeg then some (X.1 + 1 + j) else none := if_pos rfl
        rw [gp_e_arr h1]
        show F.heap[G.2.2.2.1 + X.1]? = some (arrV (G.2.2.1 5) n.toNatClampNeg (fun j => va_rf (gp_o G ((gp_mn X n.toNatClampNeg k.toNatClampNeg).2.2.1 X.1 j))))
        rw [h2, ← hsz, f2]
        refine congrArg some (congrArg (arrV _ _) (funext fun j => ?_))
        by_cases hj : j < n.toNatClampNeg
        · rw [if_pos hj]
          show va_rf _ = va_rf (gp_o G (if j < n.toNatClampNeg then _ else _))
          rw [if_pos hj, hsz]
          show Value.ref (G.2.2.2.1 + X.1 + 1 + j) = Value.ref (G.2.2.2.1 + (X.1 + 1 + j))
          rw [show G.2.2.2.1 + X.1 + 1 + j = G.2.2.2.1 + (X.1 + 1 + j) by omega]
        · rw [if_neg hj]
          show va_rf _ = va_rf (gp_o G (if j < n.toNatClampNeg then _ else _))
          rw [if_neg hj]
          rfl
      · have h1 : (gp_mn X n.toNatClampNeg k.toNatClampNeg).2.1 i = (0 + 13, k.toNatClampNeg) := by
          show (if _ then _ else if _ then _ else _) = _
          rw [if_neg c2, if_pos (by omega)]
        have h3 : (gp_mn X n.toNatClampNeg k.toNatClampNeg).2.2.2.1 i = fun _ => 0 := by
          show (if _ then _ else _) = _
          rw [if_pos (by omega)]
        rw [gp_e_arr h1]
        show F.heap[G.2.2.2.1 + i]? = some (arrV (G.2.2.1 0) k.toNatClampNeg (fun j => Value.int ((gp_mn X n.toNatClampNeg k.toNatClampNeg).2.2.2.1 i j)))
        rw [h3, show G.2.2.2.1 + i = H.size + 1 + (i - X.1 - 1) by omega, hrow _ (by omega)]
  obtain ⟨t, a1, b1⟩ := kk G p e s m args below meth c F.heap locs ls Z hG hF hh hl F rfl X'
  refine ⟨t, step t ?_, b1⟩
  have e2 : ((Value.ref X.1 :: st).map (gp_v G)) = .ref T.heap.size :: st.map (gp_v G) := by rw [hT, hH.1]; rfl
  rw [e2] at a1
  exact a1
