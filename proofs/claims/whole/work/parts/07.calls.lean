/-! what lies outside stays -/
theorem gp_AOA {u U : State} (hvm : u.vm.Alike U.vm) (h : (Cond.arrayOver (.array .int)).before #[] u = true) : (Cond.arrayOver (.array .int)).before #[] U = true := by
  obtain ⟨comp, c, k, h1, h2, h3, h4, h5⟩ := arrayOverA_spec h
  obtain ⟨k', hk', he⟩ := hvm.2.2 _ _ h3
  have hi : (U.vm.classes.findIdx? fun (x : Class) => match x.kind with | .array component _ => component == comp | _ => false) = some c := by
    rw [hvm.findIdx?_eq _ (fun _ => rfl)]; exact h2
  have hkind : k'.kind = .array comp (.array .int) := by rw [he]; exact h4
  have f1 : U.vm.findClass (FieldType.array .int).toString = some comp := by rw [hvm.findClass]; exact h1
  have f2 : U.vm.findClass ("[" ++ (FieldType.array .int).toString) = some c := by rw [hvm.findClass]; exact h5
  unfold Cond.before Cond.holds
  simp only [Cond.value]
  rw [f1, Option.bind_some]
  refine (congrArg (fun o : Option Nat => (o.bind (fun c => (U.vm.classes[c]?).map fun (k : Class) => match k.kind with | .array _ ty => decide (ty = FieldType.array .int) && decide (U.vm.findClass ("[" ++ (FieldType.array .int).toString) = some c) | _ => false) == some true)) hi).trans ?_
  simp [hk', hkind, f2]
theorem gp_N_warm {s U : State} (hW : s.WarmedH U.vm) (h : gp_N s) : gp_N U := by
  obtain ⟨h1, h2, h3, h4, h5⟩ := h
  refine ⟨fun w hw => ?_, fun q hq => va_Nc.moved hW.alike (h2 q hq), va_AO.moved hW.alike h3, va_AO.moved hW.alike h4, ?_⟩
  · have hz := h1 w hw
    have hi := (List.mem_filter.mp hw).2
    cases w <;> first | (exact absurd hi Bool.false_ne_true) | exact va_Nw.warmM hW hz | exact va_Nw.warmC hW hz
  · exact gp_AOA hW.alike h5
theorem gp_Z_kept {E : gp_E} {G : gp_G} {s : State} {H H1 : Heap} (h : gp_Z E G s H) (hb : G.2.2.2.1 ≤ H.size) (hq : ∀ q : Nat, q < G.2.2.2.1 → H1[q]? = H[q]?) : gp_Z E G s H1 := by
  obtain ⟨⟨h1, h2⟩, h3, h4, h5, h6, h7⟩ := h
  have hq' : ∀ a : Nat, a < H.size → ¬ gp_A G a → H1[a]? = H[a]? := fun a _ h => hq a (Nat.not_le.mp h)
  exact ⟨⟨h1.kept (hq _ h2), h2⟩, h3.kept hq', h4, h5.kept hq', h6.kept hq', h7⟩
theorem gp_Z_warm {E : gp_E} {G : gp_G} {s U : State} {H : Heap} (hW : s.WarmedH U.vm) (h : gp_Z E G s H) : gp_Z E G U H := by
  obtain ⟨⟨h1, h2⟩, h3, ⟨h4, h4'⟩, h5, h6, h7⟩ := h
  exact ⟨⟨h1.moved hW.alike, h2⟩, h3.moved hW.alike, ⟨h4.warm hW, h4'.warm hW⟩, h5.moved hW.alike, h6.moved hW.alike, gp_N_warm hW h7⟩
/-- a method's start -/
def gp_PU (E : gp_E) (G : gp_G) (X : gp_H) (U : State) : Prop := U.heap.size = G.2.2.2.1 + X.1 ∧ va_P (G.1, G.2.1) gp_cl (gp_w G X) U.heap ∧ va_K (G.1, G.2.1) gp_cl (gp_tys G) U ∧ gp_Z E G U U.heap
/-- its end -/
def gp_Qe (G : gp_G) (Q : Option Value → gp_H → Prop) : Array Value → State → Outcome → State → Prop := fun _ st o t => ∃ (r : Option Value) (X : gp_H), o = .returned (r.map (gp_v G)) ∧ Q r X ∧ t.heap.size = G.2.2.2.1 + X.1 ∧ va_P (G.1, G.2.1) gp_cl (gp_w G X) t.heap ∧ va_F (gp_A G) st t
theorem gp_L_args (G : gp_G) : ∀ (as : List Value) (i : Nat), lv_args i (as.map (gp_v G)) = gp_L G (lv_args i as)
  | [], _ => rfl
  | v :: t, i => by
    show (i, gp_v G v) :: lv_args (if (gp_v G v).category = 2 then i + 2 else i + 1) (t.map (gp_v G)) = (i, gp_v G v) :: gp_L G (lv_args (if v.category = 2 then i + 2 else i + 1) t)
    rw [gp_v_cat, gp_L_args G t]
theorem gp_sl_len (G : gp_G) : ∀ (as : List Value), (lg_sl (as.map (gp_v G))).length = (lg_sl as).length
  | [] => rfl
  | v :: t => by
    have h := gp_sl_len G t
    unfold lg_sl at h ⊢
    rw [List.map_cons, List.flatMap_cons, List.flatMap_cons, List.length_append, List.length_append, h, gp_v_cat]
    by_cases hc : v.category = 2
    · rw [if_pos hc, if_pos hc]; rfl
    · rw [if_neg hc, if_neg hc]; rfl
theorem gp_met {E : gp_E} {y : gp_M} {X : gp_H} {Q : Option Value → gp_H → Prop} (G : gp_G) (as : List Value) (hE : Ev E y 0 (lv_args 0 as) [] X (0, 0) Q) (hlen : (lg_sl as).length ≤ y.2.2.1) (hp : plainName y.1.cls = true) :
    Met E.1 y.1 (gp_ws y) y.2.2.2.2 (va_Pc (as.map (gp_v G)) (gp_PU E G X)) (gp_Qe G Q) y.2.2.2.2.cells y.2.2.2.2.slots (gp_A G) := by
  refine Met.ofW (cc := y.2.1) (maxL := y.2.2.1) (ret := y.2.2.2.1) hp rfl ?_
  intro p e s m args below meth c s₁ B hml hv
  obtain ⟨rfl, h1, h2, h3, h4⟩ := hv
  have hl := lv_entry (as.map (gp_v G)) (n := y.2.2.1) (by rw [gp_sl_len]; exact hlen)
  rw [gp_L_args] at hl
  rw [lg_entry_eq]
  have hlocks := B.notSynchronized
  refine hE G p e s m _ below meth c s.heap [] _ _ ⟨B.exec, B.bytes, hml, B.returns, findClass_of_methodNamed B.named, fun w hw => atoms_spec (ws := gp_ws y) B.pre w (List.mem_cons_of_mem _ hw), B.notSynchronized, (name_of_methodNamed B.named B.method).1, h3, by rw [h1]; exact Nat.le_add_right _ _, h4⟩ ?_ ⟨h1, h2, va_S.rf⟩ hl
  intro r X' H locs cells slots pc ls hQ hH hc hs hrt
  refine W.widen hc hs ?_
  have hq : ∀ t : State, t.heap = H → s.WarmedH t.vm → gp_Qe G Q (as.map (gp_v G)).toArray s (.returned (r.map (gp_v G))) t := fun t ht _ => ⟨r, X', rfl, hQ, by rw [ht]; exact hH.1, by rw [ht]; exact hH.2.1, hH.2.2.F ht⟩
  rcases hrt with ⟨rfl, k1, k2⟩ | ⟨v, ty, rfl, k1, k2, k3⟩ | ⟨v, rfl, k1, k2⟩ | ⟨v, rt, rfl, k0, k1, k2, k3⟩
  · exact W.vret B.exec B.bytes (by rw [B.returns]; exact k2) hq hH.2.2.2.2 k1
  · exact W.zret B.exec B.bytes (by rw [B.returns]; exact k2) k3 hq hH.2.2.2.2 k1
  · exact W.lret B.exec B.bytes (by rw [B.returns]; exact k2) hq hH.2.2.2.2 k1
  · refine W.aret B.exec B.bytes (by rw [B.returns]; exact k2) k3 ?_ hq hH.2.2.2.2 k1
    rcases k0 with rfl | ⟨a, rfl⟩
    · exact Or.inl rfl
    · exact Or.inr ⟨_, rfl⟩
/-- behind a call -/
theorem gp_go {E : gp_E} {G : gp_G} {p : Program} {e : Env} {R : Room} {s : State} {m : MethodId} {args : Array Value} {below : List Frame} {meth : Method} {c : Code} {H : Heap} {locs : List Loc} {cells slots mc ms pc : Nat} {ls : Array Slot} {st0 : List Value} {rest : List Value} {Q : Option Value → gp_H → Prop} {a : Array Value} {Z : State → Prop} {X : gp_H}
    (hr : va_Run p E.1 e R s m args below meth c H locs cells slots mc ms (F0 m pc ls st0) (rest.map (gp_v G)) (gp_Qe G Q a) (gp_A G)) (hH : gp_h G X s H locs)
    (kk : ∀ (r : Option Value) (X' : gp_H) (H1 : Heap) (locs1 : List Loc), Q r X' → gp_h G X' s H1 locs1 → W p E.1 e R s m args below meth c H1 locs1 (cells + mc) (slots + ms) Z (F0 m (pc + 3) ls ((r.toList ++ rest).map (gp_v G)))) : W p E.1 e R s m args below meth c H locs cells slots Z (F0 m pc ls st0) := by
  intro T hT XX
  obtain ⟨v, st₀, t, T', L, h0, X', hL, e1, e2, ⟨r, X1, hv, hq, hz, hP, hF1, hF2⟩, st⟩ := hr T hT XX
  cases hv
  rw [h0] at hF1 hF2
  have hS : va_S (gp_A G) s.heap T'.heap (locs ++ L) := ⟨Nat.le_trans hH.2.2.1 (by rw [e1]; exact hF1), fun q h1 h2 => by rw [e1, hF2 q (Nat.lt_of_lt_of_le h1 hH.2.2.1) h2]; exact hH.2.2.2.1 q h1 h2, fun q hq => by
    rcases List.mem_append.mp hq with h | h
    · exact hH.2.2.2.2 q h
    · exact hL q h⟩
  obtain ⟨t2, a1, b1⟩ := kk r X1 T'.heap (locs ++ L) hq ⟨by rw [e1]; exact hz, by rw [e1]; exact hP, hS⟩ T' rfl X'
  refine ⟨t2, st t2 ?_, b1⟩
  have e3 : (r.toList ++ rest).map (gp_v G) = (r.map (gp_v G)).toList ++ rest.map (gp_v G) := by
    rw [List.map_append]
    cases r <;> rfl
  rw [e3] at a1
  exact a1
/-- what a call wants of the method that is called -/
def gp_mo (y : gp_M) (n : Nat) : Prop := (parseMethodDescriptor y.1.desc).map (fun d => d.parameters.length) = some n ∧ plainName y.1.cls = true ∧ (y.1.cls ≠ "java/lang/invoke/MethodHandle" ∧ y.1.cls ≠ "java/lang/invoke/VarHandle") ∧ Cond.code y.1 y.2.1 y.2.2.1 y.2.2.2.1 ∈ lw_g ∧ Cond.initialized y.1.cls ∈ lw_g
/-- the room of a method that is called -/
def gp_rm (y z : gp_M) : Bool := Nat.ble (z.2.2.2.2.frames + 1) y.2.2.2.2.frames && Nat.ble (8 + (z.2.2.1 + 11) + z.2.2.2.2.locals) y.2.2.2.2.locals
theorem gp_rm_of {y z : gp_M} (h : gp_rm y z = true) : z.2.2.2.2.frames + 1 ≤ y.2.2.2.2.frames ∧ 8 + (z.2.2.1 + 11) + z.2.2.2.2.locals ≤ y.2.2.2.2.locals := by
  unfold gp_rm at h
  rw [Bool.and_eq_true] at h
  exact ⟨Nat.le_of_ble_eq_true h.1, Nat.le_of_ble_eq_true h.2⟩
theorem gp_ws_in {y : gp_M} {n : Nat} (h : gp_mo y n) : ∀ w ∈ gp_ws y, w ∈ lw_g := fun w hw => by
  rcases List.mem_cons.mp hw with rfl | hw
  · exact h.2.2.2.1
  · exact hw
section EVC
variable {E : gp_E} {y z : gp_M} {pc idx n : Nat} {L : List (Nat × Value)} {st rest as : List Value} {X : gp_H} {u : Nat × Nat} {Q Qz : Option Value → gp_H → Prop}
theorem gp_rest (G : gp_G) {m : MethodId} {ls : Array Slot} {st0 : List Value} (h : (rest.map fun v => v.category).sum ≤ 8) : 2 * (F0 m pc ls st0).monitorRoom + ((rest.map (gp_v G)).map fun v => v.category).sum ≤ 8 := by
  have e : (rest.map (gp_v G)).map (fun v => v.category) = rest.map fun v => v.category := by
    rw [List.map_map]
    exact List.map_congr_left (fun v _ => gp_v_cat G v)
  rw [e]
  exact lv_room h
theorem gp_pre {G : gp_G} {p : Program} {s : State} {m : MethodId} {args : Array Value} {meth : Method} {c : Code} {H : Heap} {locs : List Loc} (hG : gp_ok E G y p s m args meth c) (hH : gp_h G X s H locs) (as : List Value) : PreS s H (va_Pc (as.map (gp_v G)) (gp_PU E G X)) (as.map (gp_v G)) := by
  refine ⟨fun a U g mk h => ?_, fun U hU hW => ⟨rfl, ?_⟩⟩
  · obtain ⟨h0, h1, h2, h3, h4⟩ := h
    refine ⟨h0, h1, h2, va_K.moved (u := U) (U := U.calling g mk a) (Vm.Alike.refl U.vm) h3, ?_⟩
    obtain ⟨⟨k1, k2⟩, k3, ⟨k4, k4'⟩, k5, k6, k7, k8, k9, k10, k11⟩ := h4
    exact ⟨⟨va_X.moved (u := U) (U := U.calling g mk a) (Vm.Alike.refl U.vm) k1, k2⟩, vk_S.moved (u := U) (U := U.calling g mk a) (Vm.Alike.refl U.vm) k3, ⟨vk_R.same (u := U) (U := U.calling g mk a) rfl k4, vk_R.same (u := U) (U := U.calling g mk a) rfl k4'⟩, va_Z.moved (u := U) (U := U.calling g mk a) (Vm.Alike.refl U.vm) k5, va_Zq.moved (u := U) (U := U.calling g mk a) (Vm.Alike.refl U.vm) k6,
      fun w hw => by
        have hi := (List.mem_filter.mp hw).2
        have hz := k7 w hw
        cases w <;> first | (exact absurd hi Bool.false_ne_true) | exact va_Nw.same (u := U) (U := U.calling g mk a) rfl rfl hz,
      fun q hq => va_Nc.moved (u := U) (U := U.calling g mk a) (Vm.Alike.refl U.vm) (k8 q hq), va_AO.moved (u := U) (U := U.calling g mk a) (Vm.Alike.refl U.vm) k9, va_AO.moved (u := U) (U := U.calling g mk a) (Vm.Alike.refl U.vm) k10, k11⟩
  · have hb : ∀ q : Nat, q < G.2.2.2.1 → H[q]? = s.heap[q]? := fun q hq => hH.2.2.2.1 q (Nat.lt_of_lt_of_le hq hG.2.2.2.2.2.2.2.2.2.1) (Nat.not_le.mpr hq)
    exact ⟨by rw [hU]; exact hH.1, by rw [hU]; exact hH.2.1, va_K.moved hW.alike hG.2.2.2.2.2.2.2.2.1, by rw [hU]; exact gp_Z_warm hW (gp_Z_kept hG.2.2.2.2.2.2.2.2.2.2 hG.2.2.2.2.2.2.2.2.2.1 hb)⟩
/-- a static method -/
theorem ev_callS (hd : decode y.2.1 pc = .ok (.invokestatic idx, 3)) (hw : Cond.methodLink y.1.cls idx z.1 ∈ lw_g) (hs : Cond.static z.1 ∈ lw_g) (hm : gp_mo z n) (hR : gp_rm y z = true) (hn : as.length = n) (hl0 : (lg_sl as).length ≤ z.2.2.1) (hst : st = as.reverse ++ rest) (hrest : (rest.map fun v => v.category).sum ≤ 8) (hu : u.1 + z.2.2.2.2.cells ≤ y.2.2.2.2.cells ∧ u.2 + z.2.2.2.2.slots ≤ y.2.2.2.2.slots)
    (hc : Ev E z 0 (lv_args 0 as) [] X (0, 0) Qz) (kk : ∀ r X', Qz r X' → Ev E y (pc + 3) L (r.toList ++ rest) X' (u.1 + z.2.2.2.2.cells, u.2 + z.2.2.2.2.slots) Q) : Ev E y pc L st X u Q := by
  subst hst
  intro G p e s m args below meth c H locs ls Z hG hF hH hl
  have hts := hG.2.2.2.2.2.1
  have cw := va_cwS (own := y.1.cls) (index := idx) (R := y.2.2.2.2) (ws := gp_ws z) n hts (lw_g_in (fun w h => by
    unfold va_wsS at h
    rcases List.mem_append.mp h with h | h
    · simp only [List.mem_cons, List.not_mem_nil, or_false] at h
      rcases h with rfl | rfl | rfl
      · exact hw
      · exact hs
      · exact hm.2.2.2.2
    · exact gp_ws_in hm w h)) rfl rfl rfl ⟨hm.2.2.1.1, hm.2.2.1.2, hm.1⟩ (gp_rm_of hR)
  exact gp_go (va_runS (As := as.map (gp_v G)) (rest := rest.map (gp_v G)) ⟨hG.1, hG.2.1, hG.2.2.1, hG.2.2.2.2.1, hts⟩ (gp_met G as hc hl0 hm.2.1) cw (gp_pre hG hH as) rfl (by rw [List.length_map]; exact hn) hl.1 (by rw [List.map_append, List.map_reverse]) (gp_rest G hrest) hd hu) hH (fun r X' H1 locs1 hq hH1 => kk r X' hq G p e s m args below meth c H1 locs1 ls Z hG hF hH1 hl)
/-- a static method of a nest mate -/
theorem ev_callSN {host : String} (hd : decode y.2.1 pc = .ok (.invokestatic idx, 3)) (hw : Cond.methodLinkNest y.1.cls idx z.1 host ∈ lw_n) (hs : Cond.static z.1 ∈ lw_g) (hm : gp_mo z n) (hR : gp_rm y z = true) (hn : as.length = n) (hl0 : (lg_sl as).length ≤ z.2.2.1) (hst : st = as.reverse ++ rest) (hrest : (rest.map fun v => v.category).sum ≤ 8) (hu : u.1 + z.2.2.2.2.cells ≤ y.2.2.2.2.cells ∧ u.2 + z.2.2.2.2.slots ≤ y.2.2.2.2.slots)
    (hc : Ev E z 0 (lv_args 0 as) [] X (0, 0) Qz) (kk : ∀ r X', Qz r X' → Ev E y (pc + 3) L (r.toList ++ rest) X' (u.1 + z.2.2.2.2.cells, u.2 + z.2.2.2.2.slots) Q) : Ev E y pc L st X u Q := by
  subst hst
  intro G p e s m args below meth c H locs ls Z hG hF hH hl
  have hts := hG.2.2.2.2.2.1
  have cw := va_cnB (own := y.1.cls) (index := idx) (host := host) (R := y.2.2.2.2) (ws := gp_ws z) n hts (lw_g_in (gp_ws_in hm)) rfl rfl rfl (hG.2.2.2.2.2.2.2.2.2.2.2.2.2.2.2.1 _ hw) (hts _ hm.2.2.2.2) ⟨hm.2.2.1.1, hm.2.2.1.2, hm.1⟩ (gp_rm_of hR)
  exact gp_go (va_runSN (As := as.map (gp_v G)) (rest := rest.map (gp_v G)) ⟨hG.1, hG.2.1, hG.2.2.1, hG.2.2.2.2.1, hts⟩ (gp_met G as hc hl0 hm.2.1) ⟨cw, hts _ hs, trivial⟩ (gp_pre hG hH as) rfl (by rw [List.length_map]; exact hn) hl.1 (by rw [List.map_append, List.map_reverse]) (gp_rest G hrest) hd hu) hH (fun r X' H1 locs1 hq hH1 => kk r X' hq G p e s m args below meth c H1 locs1 ls Z hG hF hH1 hl)
/-- a constructor -/
theorem ev_callI {a : Nat} (hd : decode y.2.1 pc = .ok (.invokespecial idx, 3)) (hw : Cond.methodLink y.1.cls idx z.1 ∈ lw_g) (hs : Cond.instanceMethod z.1 ∈ lw_g) (hm : gp_mo z n) (hnm : z.1.name = "<init>") (hret : z.2.2.2.1 = none) (hR : gp_rm y z = true) (hn : as.length = n) (hl0 : (lg_sl (.ref a :: as)).length ≤ z.2.2.1) (hst : st = as.reverse ++ .ref a :: rest) (hrest : (rest.map fun v => v.category).sum ≤ 8) (hu : u.1 + z.2.2.2.2.cells ≤ y.2.2.2.2.cells ∧ u.2 + z.2.2.2.2.slots ≤ y.2.2.2.2.slots)
    (hc : Ev E z 0 (lv_args 0 (.ref a :: as)) [] X (0, 0) Qz) (kk : ∀ r X', Qz r X' → Ev E y (pc + 3) L (r.toList ++ rest) X' (u.1 + z.2.2.2.2.cells, u.2 + z.2.2.2.2.slots) Q) : Ev E y pc L st X u Q := by
  subst hst
  intro G p e s m args below meth c H locs ls Z hG hF hH hl
  have hts := hG.2.2.2.2.2.1
  have cw := cwI (own := y.1.cls) (index := idx) (R := y.2.2.2.2) (ws := gp_ws z) (bytes := z.2.1) (maxL := z.2.2.1) (ws' := lw_g) n hts (lw_g_in (gp_ws_in hm)) (by unfold gp_ws; rw [hret]) rfl rfl (hts _ hm.2.2.2.2) (hts _ hw) (hts _ hs) hnm ⟨hm.2.2.1.1, hm.2.2.1.2, hm.1⟩ (gp_rm_of hR)
  exact gp_go (va_runI (As := as.map (gp_v G)) (b := G.2.2.2.1 + a) (rest := rest.map (gp_v G)) ⟨hG.1, hG.2.1, hG.2.2.1, hG.2.2.2.2.1, hts⟩ (gp_met G (.ref a :: as) hc hl0 hm.2.1) cw (gp_pre hG hH (.ref a :: as)) rfl (by rw [List.length_map]; exact hn) hl.1 (by rw [List.map_append, List.map_reverse]; rfl) (gp_rest G hrest) hd hu) hH (fun r X' H1 locs1 hq hH1 => kk r X' hq G p e s m args below meth c H1 locs1 ls Z hG hF hH1 hl)
/-- a constructor of a nest mate -/
theorem ev_callIN {a : Nat} {host : String} (hd : decode y.2.1 pc = .ok (.invokespecial idx, 3)) (hw : Cond.methodLinkNest y.1.cls idx z.1 host ∈ lw_n) (hs : Cond.instanceMethod z.1 ∈ lw_g) (hm : gp_mo z n) (hnm : z.1.name = "<init>") (hret : z.2.2.2.1 = none) (hR : gp_rm y z = true) (hn : as.length = n) (hl0 : (lg_sl (.ref a :: as)).length ≤ z.2.2.1) (hst : st = as.reverse ++ .ref a :: rest) (hrest : (rest.map fun v => v.category).sum ≤ 8) (hu : u.1 + z.2.2.2.2.cells ≤ y.2.2.2.2.cells ∧ u.2 + z.2.2.2.2.slots ≤ y.2.2.2.2.slots)
    (hc : Ev E z 0 (lv_args 0 (.ref a :: as)) [] X (0, 0) Qz) (kk : ∀ r X', Qz r X' → Ev E y (pc + 3) L (r.toList ++ rest) X' (u.1 + z.2.2.2.2.cells, u.2 + z.2.2.2.2.slots) Q) : Ev E y pc L st X u Q := by
  subst hst
  intro G p e s m args below meth c H locs ls Z hG hF hH hl
  have hts := hG.2.2.2.2.2.1
  have cw := va_cnB (own := y.1.cls) (index := idx) (host := host) (R := y.2.2.2.2) (ws := gp_ws z) (bytes := z.2.1) (maxL := z.2.2.1) (ret := none) (ws' := lw_g) n hts (lw_g_in (gp_ws_in hm)) (by unfold gp_ws; rw [hret]) rfl rfl (hG.2.2.2.2.2.2.2.2.2.2.2.2.2.2.2.1 _ hw) (hts _ hm.2.2.2.2) ⟨hm.2.2.1.1, hm.2.2.1.2, hm.1⟩ (gp_rm_of hR)
  exact gp_go (va_runIN (As := as.map (gp_v G)) (b := G.2.2.2.1 + a) (rest := rest.map (gp_v G)) ⟨hG.1, hG.2.1, hG.2.2.1, hG.2.2.2.2.1, hts⟩ (gp_met G (.ref a :: as) hc hl0 hm.2.1) ⟨cw, hnm, hts _ hs⟩ (gp_pre hG hH (.ref a :: as)) rfl (by rw [List.length_map]; exact hn) hl.1 (by rw [List.map_append, List.map_reverse]; rfl) (gp_rest G hrest) hd hu) hH (fun r X' H1 locs1 hq hH1 => kk r X' hq G p e s m args below meth c H1 locs1 ls Z hG hF hH1 hl)
/-- a method of an object whose kind declares it -/
theorem ev_callV {a ci z0 : Nat} (hd : decode y.2.1 pc = .ok (.invokevirtual idx, 3)) (ha : gp_at X a (ci, z0)) (hci : ci < 13) (hC : z.1.cls = gp_R ci) (hw : Cond.methodLink y.1.cls idx z.1 ∈ lw_g) (hs : Cond.instanceMethod z.1 ∈ lw_g) (hsel : Cond.selects z.1.cls z.1 z.1 ∈ lw_g) (hm : gp_mo z n) (hR : gp_rm y z = true) (hn : as.length = n) (hl0 : (lg_sl (.ref a :: as)).length ≤ z.2.2.1) (hst : st = as.reverse ++ .ref a :: rest) (hrest : (rest.map fun v => v.category).sum ≤ 8) (hu : u.1 + z.2.2.2.2.cells ≤ y.2.2.2.2.cells ∧ u.2 + z.2.2.2.2.slots ≤ y.2.2.2.2.slots)
    (hc : Ev E z 0 (lv_args 0 (.ref a :: as)) [] X (0, 0) Qz) (kk : ∀ r X', Qz r X' → Ev E y (pc + 3) L (r.toList ++ rest) X' (u.1 + z.2.2.2.2.cells, u.2 + z.2.2.2.2.slots) Q) : Ev E y pc L st X u Q := by
  subst hst
  intro G p e s m args below meth c H locs ls Z hG hF hH hl
  have hts := hG.2.2.2.2.2.1
  have he := gp_w_at (G := G) ha.1
  rw [gp_e_obj ha.2 hci] at he
  have cw := cwV (own := y.1.cls) (index := idx) (C := z.1.cls) (R := y.2.2.2.2) (ws := gp_ws z) n hts (lw_g_in (fun w h => by
    unfold wsV at h
    rcases List.mem_append.mp h with h | h
    · simp only [List.mem_cons, List.not_mem_nil, or_false] at h
      rcases h with rfl | rfl | rfl | rfl
      · exact hw
      · exact hs
      · exact hsel
      · exact hm.2.2.2.2
    · exact gp_ws_in hm w h)) rfl rfl rfl ⟨rfl, hm.2.2.1.1, hm.2.2.1.2, hm.1⟩ (gp_rm_of hR)
  have hp := gp_pre hG hH (.ref a :: as)
  exact gp_go (va_runV (As := as.map (gp_v G)) (b := G.2.2.2.1 + a) (rest := rest.map (gp_v G)) ⟨hG.1, hG.2.1, hG.2.2.1, hG.2.2.2.2.1, hts⟩ (gp_met G (.ref a :: as) hc hl0 hm.2.1) cw ⟨hp.1, by rw [hC]; exact va_recv hG.2.2.2.2.2.2.2.2.1 hH.2.1 (gp_cl_at ci hci) he, hp.2⟩ rfl (by rw [List.length_map]; exact hn) hl.1 (by rw [List.map_append, List.map_reverse]; rfl) (gp_rest G hrest) hd hu) hH (fun r X' H1 locs1 hq hH1 => kk r X' hq G p e s m args below meth c H1 locs1 ls Z hG hF hH1 hl)
/-- a method that is chosen by the object's kind: x is named, z is chosen, owner has x -/
theorem ev_callU {a ci z0 : Nat} {x : MethodName} {owner : String} {b0 : ByteArray} {m0 : Nat} {r0 : Option FieldType} (hd : decode y.2.1 pc = .ok (.invokevirtual idx, 3)) (ha : gp_at X a (ci, z0)) (hci : ci < 13) (hw : Cond.methodLink y.1.cls idx x ∈ lw_g) (hsm : Cond.sameMethod x.cls owner x.name x.desc ∈ lw_g) (hso : Cond.instanceMethod ⟨owner, x.name, x.desc⟩ ∈ lw_g) (hco : Cond.code ⟨owner, x.name, x.desc⟩ b0 m0 r0 ∈ lw_g) (hs : Cond.instanceMethod z.1 ∈ lw_g) (hsel : Cond.selects (gp_R ci) x z.1 ∈ lw_g) (how : owner ≠ "java/lang/invoke/MethodHandle" ∧ owner ≠ "java/lang/invoke/VarHandle" ∧ (parseMethodDescriptor x.desc).map (fun d => d.parameters.length) = some n) (hm : gp_mo z n) (hR : gp_rm y z = true) (hn : as.length = n) (hl0 : (lg_sl (.ref a :: as)).length ≤ z.2.2.1) (hst : st = as.reverse ++ .ref a :: rest) (hrest : (rest.map fun v => v.category).sum ≤ 8) (hu : u.1 + z.2.2.2.2.cells ≤ y.2.2.2.2.cells ∧ u.2 + z.2.2.2.2.slots ≤ y.2.2.2.2.slots)
    (hc : Ev E z 0 (lv_args 0 (.ref a :: as)) [] X (0, 0) Qz) (kk : ∀ r X', Qz r X' → Ev E y (pc + 3) L (r.toList ++ rest) X' (u.1 + z.2.2.2.2.cells, u.2 + z.2.2.2.2.slots) Q) : Ev E y pc L st X u Q := by
  subst hst
  intro G p e s m args below meth c H locs ls Z hG hF hH hl
  have hts := hG.2.2.2.2.2.1
  have he := gp_w_at (G := G) ha.1
  rw [gp_e_obj ha.2 hci] at he
  have cw := va_cwO (own := y.1.cls) (index := idx) (C := gp_R ci) (owner := owner) (x := x) (y := z.1) (R := y.2.2.2.2) (ws := gp_ws z) n hts (lw_g_in (fun w h => by
    unfold va_wsO at h
    rcases List.mem_append.mp h with h | h
    · simp only [List.mem_cons, List.not_mem_nil, or_false] at h
      rcases h with rfl | rfl | rfl | rfl | rfl | rfl
      · exact hw
      · exact hsm
      · exact hso
      · exact hsel
      · exact hs
      · exact hm.2.2.2.2
    · exact gp_ws_in hm w h)) rfl rfl rfl hco how (gp_rm_of hR)
  have hp := gp_pre hG hH (.ref a :: as)
  exact gp_go (va_runU (As := as.map (gp_v G)) (b := G.2.2.2.1 + a) (rest := rest.map (gp_v G)) ⟨hG.1, hG.2.1, hG.2.2.1, hG.2.2.2.2.1, hts⟩ (gp_met G (.ref a :: as) hc hl0 hm.2.1) cw ⟨hp.1, va_recv hG.2.2.2.2.2.2.2.2.1 hH.2.1 (gp_cl_at ci hci) he, hp.2⟩ rfl (by rw [List.length_map]; exact hn) hl.1 (by rw [List.map_append, List.map_reverse]; rfl) (gp_rest G hrest) hd hu) hH (fun r X' H1 locs1 hq hH1 => kk r X' hq G p e s m args below meth c H1 locs1 ls Z hG hF hH1 hl)
/-- super.x() -/
theorem ev_callSU {a ci z0 : Nat} (hd : decode y.2.1 pc = .ok (.invokespecial idx, 3)) (ha : gp_at X a (ci, z0)) (hci : ci < 13) (hw : Cond.methodLink y.1.cls idx z.1 ∈ lw_g) (hsm : Cond.sameMethod z.1.cls z.1.cls z.1.name z.1.desc ∈ lw_g) (hsu : Cond.superclass y.1.cls z.1.cls ∈ lw_g) (hs : Cond.instanceMethod z.1 ∈ lw_g) (hm : gp_mo z n) (hnm : z.1.name ≠ "<init>") (hR : gp_rm y z = true) (hn : as.length = n) (hl0 : (lg_sl (.ref a :: as)).length ≤ z.2.2.1) (hst : st = as.reverse ++ .ref a :: rest) (hrest : (rest.map fun v => v.category).sum ≤ 8) (hu : u.1 + z.2.2.2.2.cells ≤ y.2.2.2.2.cells ∧ u.2 + z.2.2.2.2.slots ≤ y.2.2.2.2.slots)
    (hc : Ev E z 0 (lv_args 0 (.ref a :: as)) [] X (0, 0) Qz) (kk : ∀ r X', Qz r X' → Ev E y (pc + 3) L (r.toList ++ rest) X' (u.1 + z.2.2.2.2.cells, u.2 + z.2.2.2.2.slots) Q) : Ev E y pc L st X u Q := by
  subst hst
  intro G p e s m args below meth c H locs ls Z hG hF hH hl
  have hts := hG.2.2.2.2.2.1
  have he := gp_w_at (G := G) ha.1
  rw [gp_e_obj ha.2 hci] at he
  have cw := va_cwSU (own := y.1.cls) (index := idx) (y := z.1) (R := y.2.2.2.2) (ws := gp_ws z) n hts (lw_g_in (fun w h => by
    unfold va_wsSU at h
    rcases List.mem_append.mp h with h | h
    · simp only [List.mem_cons, List.not_mem_nil, or_false] at h
      rcases h with rfl | rfl | rfl | rfl | rfl
      · exact hw
      · exact hsm
      · exact hsu
      · exact hs
      · exact hm.2.2.2.2
    · exact gp_ws_in hm w h)) rfl rfl rfl ⟨hnm, hm.1⟩ (gp_rm_of hR)
  have hp := gp_pre hG hH (.ref a :: as)
  exact gp_go (va_runSU (As := as.map (gp_v G)) (b := G.2.2.2.1 + a) (rest := rest.map (gp_v G)) (hG.2.2.2.2.2.2.2.2.1.1 ci _ (gp_cl_at ci hci)).2 ⟨hG.1, hG.2.1, hG.2.2.1, hG.2.2.2.2.1, hts⟩ (gp_met G (.ref a :: as) hc hl0 hm.2.1) cw ⟨hp.1, va_recv hG.2.2.2.2.2.2.2.2.1 hH.2.1 (gp_cl_at ci hci) he, hp.2⟩ rfl (by rw [List.length_map]; exact hn) hl.1 (by rw [List.map_append, List.map_reverse]; rfl) (gp_rest G hrest) hd hu) hH (fun r X' H1 locs1 hq hH1 => kk r X' hq G p e s m args below meth c H1 locs1 ls Z hG hF hH1 hl)
/-- Object() -/
theorem ev_obj {a : Nat} (hd : decode y.2.1 pc = .ok (.invokespecial idx, 3)) (hw : Cond.methodLink y.1.cls idx Lib.objectInit ∈ lw_g) (hs : Cond.instanceMethod Lib.objectInit ∈ lw_g) (hco : Cond.code Lib.objectInit ⟨#[0xb1]⟩ 1 none ∈ lw_g) (hR : 1 ≤ y.2.2.2.2.frames ∧ (rest.map fun v => v.category).sum + 12 ≤ y.2.2.2.2.locals) (kk : Ev E y (pc + 3) L rest X u Q) : Ev E y pc L (.ref a :: rest) X u Q := by
  intro G p e s m args below meth c H locs ls Z hG hF hH hl
  have hts := hG.2.2.2.2.2.1
  have e0 : (rest.map (gp_v G)).map (fun v => v.category) = rest.map fun v => v.category := by
    rw [List.map_map]
    exact List.map_congr_left (fun v _ => gp_v_cat G v)
  exact W.objInit hG.1 hG.2.1 hG.2.2.2.2.1 (hts _ hw) (hts _ hs) (hts _ hco) rfl (by rw [hG.2.2.1]; exact hl.1) rfl hd hR.1 (by rw [e0]; show 2 * 0 + _ + 12 ≤ _; omega) (kk G p e s m args below meth c H locs ls Z hG hF hH hl)
end EVC
