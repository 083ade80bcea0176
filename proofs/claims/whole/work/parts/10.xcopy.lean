theorem x_acopy : Cond.native arraycopyName ∈ lw_g ∧ Cond.static arraycopyName ∈ lw_g ∧ Cond.initialized "java/lang/System" ∈ lw_g := ⟨lw_g_of (lw_t5 (List.mem_of_getElem? (i := 203) (by decide +kernel))) rfl, lw_g_of (lw_t5 (List.mem_of_getElem? (i := 202) (by decide +kernel))) rfl, lw_g_of (lw_t1 (List.mem_of_getElem? (i := 21) (by decide +kernel))) rfl⟩
/-- n ints of a from s on come to b from d on -/
def gp_cp (X : gp_H) (a b s d n : Nat) : gp_H := gp_wI X (fun i k => if i = b ∧ d ≤ k ∧ k < d + n then X.2.2.2.1 a (s + (k - d)) else X.2.2.2.1 i k)
theorem gp_e_cp {G : gp_G} {X : gp_H} {a b s d n i : Nat} (h : i ≠ b) : gp_e G (gp_cp X a b s d n) i = gp_e G X i := by
  have h3 : (gp_cp X a b s d n).2.2.2.1 i = X.2.2.2.1 i := funext fun k => if_neg (fun q => h q.1)
  have ha : ∀ t, gp_ar G (gp_cp X a b s d n) i t = gp_ar G X i t := fun t => match t with
    | 0 => by show Sum.inl ((gp_cp X a b s d n).2.2.2.1 i) = _; rw [h3]; rfl
    | 1 => by show Sum.inl ((gp_cp X a b s d n).2.2.2.1 i) = _; rw [h3]; rfl
    | 2 => rfl
    | n + 3 => rfl
  have hf : ∀ ci, gp_fv G (gp_cp X a b s d n) i ci = gp_fv G X i ci := fun ci => funext fun j => by
    unfold gp_fv
    rw [h3]
    rfl
  unfold gp_e
  show (if (X.2.1 i).1 < 13 then Sum.inr ((X.2.1 i).1, (List.range (gp_nf (X.2.1 i).1)).map (gp_fv G (gp_cp X a b s d n) i (X.2.1 i).1)) else Sum.inl (G.2.2.1 ((X.2.1 i).1 - 13), (X.2.1 i).2, gp_ar G (gp_cp X a b s d n) i ((X.2.1 i).1 - 13))) = _
  rw [ha, hf]
theorem ev_acopy {E : gp_E} {y : gp_M} {pc idx : Nat} {L : List (Nat × Value)} {rest : List Value} {X : gp_H} {u : Nat × Nat} {Q : Option Value → gp_H → Prop} {a b n0 n1 : Nat} {sp dp n : Int32} (hd : decode y.2.1 pc = .ok (.invokestatic idx, 3)) (hw : Cond.methodLink y.1.cls idx arraycopyName ∈ lw_g) (ha : gp_at X a (13, n0)) (hb : gp_at X b (13, n1)) (h1 : ¬ sp < 0) (h2 : ¬ dp < 0) (h3 : ¬ n < 0) (h4 : sp.toNatClampNeg + n.toNatClampNeg ≤ n0) (h5 : dp.toNatClampNeg + n.toNatClampNeg ≤ n1)
    (hR : 1 ≤ y.2.2.2.2.frames ∧ (rest.map fun v => v.category).sum + (nativeFrameWords "java/lang/System" "arraycopy" 5 + 11) ≤ y.2.2.2.2.locals) (kk : Ev E y (pc + 3) L rest (gp_cp X a b sp.toNatClampNeg dp.toNatClampNeg n.toNatClampNeg) u Q) : Ev E y pc L (.int n :: .int dp :: .ref b :: .int sp :: .ref a :: rest) X u Q := by
  intro G p e s m args below meth c H locs ls Z hG hF hH hl
  have hts := hG.2.2.2.2.2.1
  have nn : ∀ z : Int32, ¬ z < 0 → z.toInt = (z.toNatClampNeg : Int) := by
    intro z hz
    have hz0 : (0 : Int) ≤ z.toInt := by
      have := Int32.not_lt.mp hz
      simpa using Int32.le_iff_toInt_le.mp this
    show z.toInt = ((z.toInt.toNat : Nat) : Int)
    omega
  have he0 := gp_w_at (G := G) ha.1
  rw [gp_e_arr (t := 0) ha.2] at he0
  have he1 := gp_w_at (G := G) hb.1
  rw [gp_e_arr (t := 0) hb.2] at he1
  have e0 : (rest.map (gp_v G)).map (fun v => v.category) = rest.map fun v => v.category := by
    rw [List.map_map]
    exact List.map_congr_left (fun v _ => gp_v_cat G v)
  intro T hT XX
  have hc0 : H[G.2.2.2.1 + a]? = some (arrV (G.2.2.1 0) n0 (fun j => .int (X.2.2.2.1 a j))) := hH.2.1 a _ he0
  have hc1 : H[G.2.2.2.1 + b]? = some (arrV (G.2.2.1 0) n1 (fun j => .int (X.2.2.2.1 b j))) := hH.2.1 b _ he1
  have hk := hG.2.2.2.2.2.2.2.2.1.2 0 _ (rfl : (gp_tys G)[0]? = some (G.2.2.1 0, .int))
  obtain ⟨-, k0, hk0, cm0, hkk0⟩ := hk.1 n0 (fun j => .int (X.2.2.2.1 a j))
  obtain ⟨-, k1, hk1, cm1, hkk1⟩ := hk.1 n1 (fun j => .int (X.2.2.2.1 b j))
  obtain ⟨vm', X', step⟩ := XX.arraycopy hG.1 hG.2.2.2.2.1 (hts _ hw) (hts _ x_acopy.1) (hts _ x_acopy.2.1) (hts _ x_acopy.2.2) (src := G.2.2.2.1 + a) (dst := G.2.2.2.1 + b) (cs := arrV (G.2.2.1 0) n0 (fun j => .int (X.2.2.2.1 a j))) (cd := arrV (G.2.2.1 0) n1 (fun j => .int (X.2.2.2.1 b j))) (srcPos := sp) (destPos := dp) (n := n) (by rw [hT]; exact hc0) (by rw [hT]; exact hc1)
    (fun _ h => by cases h) (fun _ h => by cases h) (fun h => by cases h) (fun h => by cases h) hk0 hk1 hkk0 hkk1 (by simp [refKind]) h1 h2 h3
    (by rw [nn sp h1, nn n h3]; rw [arrV_size]; omega)
    (by rw [nn dp h2, nn n h3]; rw [arrV_size]; omega)
    (fun vm₁ _ i hi => by
      have e1 : (arrV (G.2.2.1 0) n0 (fun j => Value.int (X.2.2.2.1 a j))).slots.getD (sp.toNatClampNeg + i) .null = .int (X.2.2.2.1 a (sp.toNatClampNeg + i)) := by
        rw [Array.getD_eq_getD_getElem?, arrV_read _ _ (by omega)]
        rfl
      refine ⟨?_, ?_⟩
      · rw [e1]; rfl
      · rw [e1]; exact trivial)
    (g := F0 m pc ls (.int n :: .int dp :: .ref (G.2.2.2.1 + b) :: .int sp :: .ref (G.2.2.2.1 + a) :: rest.map (gp_v G))) rfl (by rw [hG.2.2.1]; exact hl.1) (rest := rest.map (gp_v G)) rfl (by rw [hG.2.1]; exact hd) hR.1 (by rw [e0]; show 2 * 0 + _ + _ ≤ _; have := hR.2; omega)
  have e1 : copied (arrV (G.2.2.1 0) n0 (fun j => Value.int (X.2.2.2.1 a j))) (arrV (G.2.2.1 0) n1 (fun j => Value.int (X.2.2.2.1 b j))) sp dp n = arrV (G.2.2.1 0) n1 (fun j => Value.int (va_cpy (X.2.2.2.1 a) (X.2.2.2.1 b) sp.toNatClampNeg dp.toNatClampNeg n.toNatClampNeg j)) := va_copied (fun z => .int z) _ _ _ _ h4
  rw [e1] at X' step
  have hl1 : G.2.2.2.1 + b < H.size := (Array.getElem?_eq_some_iff.mp hc1).1
  have hheap : ((T.setVm vm').setCell (G.2.2.2.1 + b) (arrV (G.2.2.1 0) n1 (fun j => Value.int (va_cpy (X.2.2.2.1 a) (X.2.2.2.1 b) sp.toNatClampNeg dp.toNatClampNeg n.toNatClampNeg j)))).heap = H.setIfInBounds (G.2.2.2.1 + b) (arrV (G.2.2.1 0) n1 (fun j => Value.int (va_cpy (X.2.2.2.1 a) (X.2.2.2.1 b) sp.toNatClampNeg dp.toNatClampNeg n.toNatClampNeg j))) := by rw [← hT]; rfl
  have oq : ∀ q : Nat, q ≠ G.2.2.2.1 + b → (H.setIfInBounds (G.2.2.2.1 + b) (arrV (G.2.2.1 0) n1 (fun j => Value.int (va_cpy (X.2.2.2.1 a) (X.2.2.2.1 b) sp.toNatClampNeg dp.toNatClampNeg n.toNatClampNeg j))))[q]? = H[q]? := fun q hq => by simp [Array.getElem?_setIfInBounds, Ne.symm hq]
  have hw' : gp_w G (gp_cp X a b sp.toNatClampNeg dp.toNatClampNeg n.toNatClampNeg) = (gp_w G X).set b (G.2.2.2.1 + b, .inl (G.2.2.1 0, n1, .inl (va_cpy (X.2.2.2.1 a) (X.2.2.2.1 b) sp.toNatClampNeg dp.toNatClampNeg n.toNatClampNeg))) := by
    rw [gp_w_set (X := X) (X' := gp_cp X a b sp.toNatClampNeg dp.toNatClampNeg n.toNatClampNeg) (i := b) rfl (fun j hj => gp_e_cp hj), gp_e_arr (X := gp_cp X a b sp.toNatClampNeg dp.toNatClampNeg n.toNatClampNeg) (t := 0) hb.2]
    have e9 : gp_ar G (gp_cp X a b sp.toNatClampNeg dp.toNatClampNeg n.toNatClampNeg) b 0 = .inl (va_cpy (X.2.2.2.1 a) (X.2.2.2.1 b) sp.toNatClampNeg dp.toNatClampNeg n.toNatClampNeg) := by
     refine congrArg Sum.inl (funext fun k => ?_)
     unfold va_cpy gp_cp gp_wI
     by_cases hq : dp.toNatClampNeg ≤ k ∧ k < dp.toNatClampNeg + n.toNatClampNeg
     · rw [if_pos hq]; exact if_pos ⟨rfl, hq⟩
     · rw [if_neg hq]; exact if_neg (fun z => hq z.2)
    rw [e9]
  have hs : ∀ locs2 : List Loc, (∀ q ∈ locs2, gp_A G q.base) → W p E.1 e y.2.2.2.2 s m args below meth c (H.setIfInBounds (G.2.2.2.1 + b) (arrV (G.2.2.1 0) n1 (fun j => Value.int (va_cpy (X.2.2.2.1 a) (X.2.2.2.1 b) sp.toNatClampNeg dp.toNatClampNeg n.toNatClampNeg j)))) locs2 u.1 u.2 Z (F0 m (pc + 3) ls (rest.map (gp_v G))) := fun locs2 hlo =>
    kk G p e s m args below meth c _ locs2 ls Z hG hF ⟨by rw [Array.size_setIfInBounds]; exact hH.1, by
      rw [hw']
      exact hH.2.1.set (gp_w_D G X) he1 (show (H.setIfInBounds _ _)[_]? = some _ by simp [Array.getElem?_setIfInBounds, hl1]; rfl) oq, ⟨by rw [Array.size_setIfInBounds]; exact hH.2.2.1, fun q g1 g2 => by
      rw [oq q (fun z => g2 (by rw [z]; exact Nat.le_add_right _ _))]
      exact hH.2.2.2.1 q g1 g2, hlo⟩⟩ hl
  have h9 := fun hx => hs _ hx _ hheap X'
  obtain ⟨t, a1, b1⟩ := h9 (fun q hq => by
      rcases List.mem_append.mp hq with h | h
      · exact hH.2.2.2.2 q h
      · obtain ⟨z, -, hz⟩ := List.mem_map.mp h
        rw [← hz]
        exact Nat.le_add_right _ _)
  exact ⟨t, step t a1, b1⟩
theorem ly_cp {S : gp_S} {X : gp_H} {a b s d n : Nat} (h : Lay S X) : Lay S (gp_cp X a b s d n) := h
theorem at_cp {X : gp_H} {a b s d n i : Nat} {q : Nat × Nat} (h : gp_at X i q) : gp_at (gp_cp X a b s d n) i q := h
