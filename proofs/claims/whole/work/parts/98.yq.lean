section VSG
variable {p : Program} {l : Launch} {e : Env} {R : Room} {s : State} {m : MethodId} {args : Array Value} {below : List Frame} {meth : Method} {c : Code}
/-- super.x(), where the superclass has x from its own superclass -/
theorem va_callSG {T : State} {locs : List Loc} {cells slots : Nat} (X : Stand p l e R s m args below meth c T locs cells slots) (hexec : p.tables.exec = Jvm.exec) {own xc : String} {index : Nat} {y : MethodName} {bytes : ByteArray} {maxL : Nat} {ret : Option FieldType}
    (hown : s.vm.findClass own = some m.cls) (hlink : (Cond.methodLink own index ⟨xc, y.name, y.desc⟩).before args s = true) (hsame : (Cond.sameMethod xc y.cls y.name y.desc).before args s = true) (hsup : (Cond.superclass own xc).before args s = true) (hsup2 : (Cond.superclass xc y.cls).before args s = true)
    (hinst : (Cond.instanceMethod y).before args s = true) (hcode : (Cond.code y bytes maxL ret).before args s = true) (hno : y.name ≠ "<init>")
    {W : Nat} {Pre : Pt → Array Value → Prop} {Post : Pt → Array Value → Option Value → Pt → Prop} (hK : Back l R p e below s args y 3 W Pre Post)
    {b : Addr} {cellB : Cell} {kB : Class} (hcell : T.heap[b]? = some cellB) (hobj : cellB.vm.isStatics = false) (hkB : s.vm.classes[cellB.cls]? = some kB)
    {g : JFrame} (hg : g.method = m) (hsize : g.locals.size = c.maxLocals) {argsL rest : List Value} (hlen : ∀ sig, parseMethodDescriptor y.desc = some sig → argsL.length = sig.parameters.length)
    (hstack : g.stack = argsL.reverse ++ .ref b :: rest) (hW : 2 * g.monitorRoom + (rest.map fun v => v.category).sum ≤ W) (hdg : decode c.code g.pc = .ok (.invokespecial index, 3))
    (hpre : ∀ vm₁, s.WarmedH vm₁ → Pre ⟨T.setVm vm₁, locs, cells, slots⟩ (Value.ref b :: argsL).toArray) :
    ∃ (v : Option Value) (vm₁ : Vm) (B : Pt), s.WarmedH vm₁ ∧ Stand p l e R s m args below meth c B.U B.locs B.cells B.slots ∧ Post ⟨T.setVm vm₁, locs, cells, slots⟩ (Value.ref b :: argsL).toArray v B ∧
      ∀ target, Steps p.tables e below (B.U.setTop { g with pc := g.pc + 3, stack := v.toList ++ rest }) target → Steps p.tables e below (T.setTop g) target := by
  obtain ⟨mk, methM, hnamed, hmethM, hstM, habM⟩ := Cond.instanceMethod_spec hinst
  obtain ⟨methM', cM, hmethM', -, -, -, -, -, -, hsigM⟩ := Cond.code_spec hnamed hcode
  cases hmethM.symm.trans hmethM'
  obtain ⟨ps, dk, kp, hps, hdk, hkp, hsuper, -, -, hnid⟩ := Cond.superclass_spec hown hsup
  obtain ⟨pt, dp, kt, hpt, hdp, hkt, hsuper2, -, -, -⟩ := Cond.superclass_spec hps hsup2
  have hn : s.methodNamed? ⟨y.cls, y.name, y.desc⟩ = some mk := hnamed
  have hpm : pt = mk.cls := Option.some.inj (hpt.symm.trans (findClass_of_methodNamed hnamed))
  have hsz : ∃ n, s.vm.classes.size = n + 1 := by
    cases z : s.vm.classes.size with
    | zero =>
      have : s.vm.classes[ps]? = none := Array.getElem?_eq_none (by omega)
      rw [this] at hdp
      cases hdp
    | succ n => exact ⟨n, rfl⟩
  have hsub : s.vm.isSubclass ps mk.cls = true := by
    obtain ⟨n, hn'⟩ := hsz
    rw [← hpm]
    simp [Vm.isSubclass, Vm.isSubclassAux, hn', hdp, hsuper2]
  obtain ⟨vm₁, X₁, hstep₁⟩ := X.invokespecialUp hexec hown hlink hsame hn hmethM hstM habM hno hdk hnid hps hsuper hsub (a := b) (cell := cellB) hcell
    (fun z h => by rw [h] at hobj; cases hobj) hkB (g := g) hg (argsL := argsL) (rest := rest) (hlen _ hsigM) hstack hdg
  obtain ⟨v, B, X', hpost, hsteps⟩ := hK m meth c ⟨T.setVm vm₁, locs, cells, slots⟩ { g with stack := rest } (.invokespecial index) mk (Value.ref b :: argsL).toArray X₁ hg hsize hdg hW (X₁.named hnamed) (hpre vm₁ X₁.warmed)
  exact ⟨v, vm₁, B, X₁.warmed, X', hpost, fun target h => hstep₁ _ (by rw [doInvoke_state]; exact hsteps.trans h)⟩
variable {H : Heap} {locs : List Loc} {cells slots : Nat}
theorem va_runSG {y : MethodName} {bytes cc : ByteArray} {maxL nL mc ms n index : Nat} {ret : Option FieldType} {ws ws' : List Cond} {rm : Room} {Pc : Array Value → State → Prop} {Qc : Array Value → State → Outcome → State → Prop} {free : Addr → Prop} {Ts : List Cond} {own C xc : String} {cC : ClassId} {b : Addr} {As rest : List Value} {g : JFrame}
    (hat : ClassAt s C cC) (S : CallFix p m c cc nL s args Ts own) (hM : Met l y ws rm Pc Qc mc ms free) (hG : GoodIn Ts ws) (hw : ws = Cond.code y bytes maxL ret :: ws') (hrc : rm.cells = mc) (hrs : rm.slots = ms) (hd : y.name ≠ "<init>" ∧ (parseMethodDescriptor y.desc).map (fun d => d.parameters.length) = some n) (hR : rm.frames + 1 ≤ R.frames ∧ 8 + (maxL + 11) + rm.locals ≤ R.locals)
    (hl1 : Cond.methodLink own index ⟨xc, y.name, y.desc⟩ ∈ Ts) (hl2 : Cond.sameMethod xc y.cls y.name y.desc ∈ Ts) (hl3 : Cond.superclass own xc ∈ Ts) (hl3' : Cond.superclass xc y.cls ∈ Ts) (hl4 : Cond.instanceMethod y ∈ Ts) (hini : Cond.initialized y.cls ∈ Ts) (hp : PreV s H C b Pc As)
    (hg : g.method = m) (hn : As.length = n) (hsize : g.locals.size = nL) (hstack : g.stack = As.reverse ++ .ref b :: rest) (hW : 2 * g.monitorRoom + (rest.map fun v => v.category).sum ≤ 8) (hdg : decode cc g.pc = .ok (.invokespecial index, 3)) (hf : cells + mc ≤ R.cells ∧ slots + ms ≤ R.slots) :
    va_Run p l e R s m args below meth c H locs cells slots mc ms g rest (Qc (Value.ref b :: As).toArray) (free) := by
  obtain ⟨hx, hb, hml, ho, ht⟩ := S
  have hcw : Cond.code y bytes maxL ret ∈ ws := by rw [hw]; exact List.mem_cons_self
  have hlen : ∀ sig, parseMethodDescriptor y.desc = some sig → n = sig.parameters.length := fun sig h => by
    have h2 := hd.2
    rw [h] at h2
    exact (Option.some.inj h2).symm
  have hK : Back l R p e below s args y 3 8 (PreOf R mc ms Pc) (PostOf Qc mc ms free) := back_of (bytes := bytes) (maxL := maxL) (ret := ret) hM hp.1 hrc hrs hR.1 hR.2 (pay_in ht hG) hcw (fun a' U hW => word_at hW (Or.inl (by first | rfl | simp [Cond.onTables, Cond.keeps, Cond.steady])) (ht _ hini))
  obtain ⟨-, ⟨cellB, hcB, hoB, hclB⟩, hPc⟩ := hp
  obtain ⟨hfc, kB, hkB, -⟩ := hat
  cases hfc.symm.trans hclB
  intro T hT X
  obtain ⟨v, vm₁, ⟨U', l2, c2, s2⟩, hW₁, X', ⟨g', mk, t, L, e1, e2, hq, h1, hL, h2, h3⟩, st⟩ := va_callSG X hx (bytes := bytes) (maxL := maxL) (ret := ret) ho (ht _ hl1) (ht _ hl2) (ht _ hl3) (ht _ hl3') (ht _ hl4) (ht _ (hG _ hcw).1) hd.1 hK (by rw [hT]; exact hcB) hoB hkB hg (hsize.trans hml.symm) (argsL := As) (rest := rest) (fun sig h => hn.trans (hlen sig h)) hstack hW (by rw [hb]; exact hdg)
    (fun vm₁ hW₁ => ⟨hf.1, hf.2, hPc (T.setVm vm₁) hT hW₁⟩)
  dsimp only [Pt.U, Pt.locs, Pt.cells, Pt.slots] at X' e1 e2 h1 h2 h3 st
  subst h1; subst h2; subst h3
  exact ⟨v, (T.setVm vm₁).calling g' mk (Value.ref b :: As).toArray, t, U', L, hT, X', hL, e1, e2, hq, st⟩
end VSG
section EVG
variable {E : gp_E} {y z : gp_M} {pc idx n : Nat} {L : List (Nat × Value)} {st as rest : List Value} {X : gp_H} {u : Nat × Nat} {Q Qz : Option Value → gp_H → Prop}
theorem ev_callSG {a ci z0 : Nat} {xc : String} (hd : decode y.2.1 pc = .ok (.invokespecial idx, 3)) (ha : gp_at X a (ci, z0)) (hci : ci < 13) (hw : Cond.methodLink y.1.cls idx ⟨xc, z.1.name, z.1.desc⟩ ∈ lw_g) (hsm : Cond.sameMethod xc z.1.cls z.1.name z.1.desc ∈ lw_g) (hsu : Cond.superclass y.1.cls xc ∈ lw_g) (hsu2 : Cond.superclass xc z.1.cls ∈ lw_g) (hs : Cond.instanceMethod z.1 ∈ lw_g) (hm : gp_mo z n) (hnm : z.1.name ≠ "<init>") (hR : gp_rm y z = true) (hn : as.length = n) (hl0 : (lg_sl (.ref a :: as)).length ≤ z.2.2.1) (hst : st = as.reverse ++ .ref a :: rest) (hrest : (rest.map fun v => v.category).sum ≤ 8) (hu : u.1 + z.2.2.2.2.cells ≤ y.2.2.2.2.cells ∧ u.2 + z.2.2.2.2.slots ≤ y.2.2.2.2.slots)
    (hc : Ev E z 0 (lv_args 0 (.ref a :: as)) [] X (0, 0) Qz) (kk : ∀ r X', Qz r X' → Ev E y (pc + 3) L (r.toList ++ rest) X' (u.1 + z.2.2.2.2.cells, u.2 + z.2.2.2.2.slots) Q) : Ev E y pc L st X u Q := by
  subst hst
  intro G p e s m args below meth c H locs ls Z hG hF hH hl
  have hts := hG.2.2.2.2.2.1
  have he := gp_w_at (G := G) ha.1
  rw [gp_e_obj ha.2 hci] at he
  have hp := gp_pre hG hH (.ref a :: as)
  exact gp_go (va_runSG (y := z.1) (n := n) (own := y.1.cls) (index := idx) (xc := xc) (As := as.map (gp_v G)) (b := G.2.2.2.1 + a) (rest := rest.map (gp_v G)) (hG.2.2.2.2.2.2.2.2.1.1 ci _ (gp_cl_at ci hci)).2 ⟨hG.1, hG.2.1, hG.2.2.1, hG.2.2.2.2.1, hts⟩ (gp_met G (.ref a :: as) hc hl0 hm.2.1) (lw_g_in (fun w h => gp_ws_in hm w h)) rfl rfl rfl ⟨hnm, hm.1⟩ (gp_rm_of hR) hw hsm hsu hsu2 hs hm.2.2.2.2 ⟨hp.1, va_recv hG.2.2.2.2.2.2.2.2.1 hH.2.1 (gp_cl_at ci hci) he, hp.2⟩ rfl (by rw [List.length_map]; exact hn) hl.1 (by rw [List.map_append, List.map_reverse]; rfl) (gp_rest G hrest) hd hu) hH (fun r X' H1 locs1 hq hH1 => kk r X' hq G p e s m args below meth c H1 locs1 ls Z hG hF hH1 hl)
end EVG
theorem b_fi_burns_0 {E : gp_E} {S : gp_S} {X : gp_H} {Q : Option Value → gp_H → Prop} {a0 : Nat} {c0 : Nat} {x1 : Int32} (hX : Lay S X) (ha0 : gp_at X a0 (c0, 0)) (hg0 : c0 < 13 ∧ gp_gid c0 = 7) (hh : (X.2.2.1 a0 0 = some 13 ∧ (∃ Qz_1, Ev E m_tr_begin 0 [(0, .ref 13), (1, .int 40)] [] X (0, 0) Qz_1 ∧ ∀ r X_4, Qz_1 r X_4 → (r = none ∧ Lay S X_4 ∧ gp_at X_4 a0 (c0, 0) ∧ (∃ Qz_10, Ev E m_ri_burns 0 [(0, .ref a0), (1, .int x1)] [] X_4 (0, 0) Qz_10 ∧ ∀ r X_13, Qz_10 r X_13 → ∃ v_18 : Int32, r = some (.int v_18) ∧ Lay S X_13 ∧ gp_at X_13 a0 (c0, 0) ∧ Q (some (.int (v_18 ^^^ (gI X_13 a0 1)))) X_13))))) : Ev E m_fi_burns 0 [(0, .ref a0), (1, .int x1)] [] X (0, 0) Q := by
  refine ev_aload_n (x := a0) (pc := 0) d_fi_burns_0 rfl ?_
  refine ev_getR (pc := 1) d_fi_burns_1 f_fi_9 ha0 hg0 rfl hh.1 ?_
  refine ev_bipush (v := 40) (pc := 4) d_fi_burns_4 kc_b_40 ?_
  obtain ⟨Qz_1, hc_2, hk_3⟩ := hh.2
  refine ev_callV (z := m_tr_begin) (as := [.int 40]) (rest := []) (pc := 6) d_fi_burns_6 (ly_at hX 13 rfl) lt13_10 rfl l_fi_15 i_tr_begin v_tr_begin o_tr_begin rfl rfl (Nat.le_of_ble_eq_true rfl) rfl (Nat.le_of_ble_eq_true rfl) ⟨Nat.le_of_ble_eq_true rfl, Nat.le_of_ble_eq_true rfl⟩ hc_2 (fun r_5 X_4 hq_6 => ?_)
  obtain ⟨rfl, hX_8, hm_9, h_7⟩ := hk_3 _ _ hq_6
  show Ev E m_fi_burns 9 [(0, .ref a0), (1, .int x1)] [] X_4 (0, 0) Q
  refine ev_aload_n (x := a0) (pc := 9) d_fi_burns_9 rfl ?_
  refine ev_iload_n (x := x1) (pc := 10) d_fi_burns_10 rfl ?_
  obtain ⟨Qz_10, hc_11, hk_12⟩ := h_7
  refine ev_callSU (z := m_ri_burns) (as := [.int x1]) (rest := []) (pc := 11) d_fi_burns_11 hm_9 hg0.1 l_fi_21 e_ri_ri_burns u_fi i_ri_burns o_ri_burns (by decide) rfl rfl (Nat.le_of_ble_eq_true rfl) rfl (Nat.le_of_ble_eq_true rfl) ⟨Nat.le_of_ble_eq_true rfl, Nat.le_of_ble_eq_true rfl⟩ hc_11 (fun r_14 X_13 hq_15 => ?_)
  obtain ⟨v_18, rfl, hX_17, hm_19, h_16⟩ := hk_12 _ _ hq_15
  show Ev E m_fi_burns 14 [(0, .ref a0), (1, .int x1)] [.int v_18] X_13 (0, 0) Q
  refine ev_aload_n (x := a0) (pc := 14) d_fi_burns_14 rfl ?_
  refine ev_getJ (v := (gI X_13 a0 1)) (pc := 15) d_fi_burns_15 f_fi_25 hm_19 hg0 rfl rfl ?_
  refine ev_ixor (pc := 18) d_fi_burns_18 ?_
  exact ev_iret (pc := 19) ⟨Nat.le_of_ble_eq_true rfl, Nat.le_of_ble_eq_true rfl⟩ d_fi_burns_19 rfl (vp_nar_int _) h_16
theorem b_gr_burns_0 {E : gp_E} {S : gp_S} {X : gp_H} {Q : Option Value → gp_H → Prop} {a0 : Nat} {c0 : Nat} {x1 : Int32} (hX : Lay S X) (ha0 : gp_at X a0 (c0, 0)) (hg0 : c0 < 13 ∧ gp_gid c0 = 7) (hh : (X.2.2.1 a0 0 = some 13 ∧ (∃ Qz_1, Ev E m_tr_begin 0 [(0, .ref 13), (1, .int 30)] [] X (0, 0) Qz_1 ∧ ∀ r X_4, Qz_1 r X_4 → (r = none ∧ Lay S X_4 ∧ gp_at X_4 a0 (c0, 0) ∧ (∃ Qz_10, Ev E m_ri_burns 0 [(0, .ref a0), (1, .int x1)] [] X_4 (0, 0) Qz_10 ∧ ∀ r X_13, Qz_10 r X_13 → ∃ v_18 : Int32, r = some (.int v_18) ∧ Lay S X_13 ∧ gp_at X_13 a0 (c0, 0) ∧ Q (some (.int (v_18 * 3))) X_13))))) : Ev E m_gr_burns 0 [(0, .ref a0), (1, .int x1)] [] X (0, 0) Q := by
  refine ev_aload_n (x := a0) (pc := 0) d_gr_burns_0 rfl ?_
  refine ev_getR (pc := 1) d_gr_burns_1 f_gr_9 ha0 hg0 rfl hh.1 ?_
  refine ev_bipush (v := 30) (pc := 4) d_gr_burns_4 kc_b_30 ?_
  obtain ⟨Qz_1, hc_2, hk_3⟩ := hh.2
  refine ev_callV (z := m_tr_begin) (as := [.int 30]) (rest := []) (pc := 6) d_gr_burns_6 (ly_at hX 13 rfl) lt13_10 rfl l_gr_15 i_tr_begin v_tr_begin o_tr_begin rfl rfl (Nat.le_of_ble_eq_true rfl) rfl (Nat.le_of_ble_eq_true rfl) ⟨Nat.le_of_ble_eq_true rfl, Nat.le_of_ble_eq_true rfl⟩ hc_2 (fun r_5 X_4 hq_6 => ?_)
  obtain ⟨rfl, hX_8, hm_9, h_7⟩ := hk_3 _ _ hq_6
  show Ev E m_gr_burns 9 [(0, .ref a0), (1, .int x1)] [] X_4 (0, 0) Q
  refine ev_aload_n (x := a0) (pc := 9) d_gr_burns_9 rfl ?_
  refine ev_iload_n (x := x1) (pc := 10) d_gr_burns_10 rfl ?_
  obtain ⟨Qz_10, hc_11, hk_12⟩ := h_7
  refine ev_callSG (xc := "GasTurn$Oven") (z := m_ri_burns) (as := [.int x1]) (rest := []) (pc := 11) d_gr_burns_11 hm_9 hg0.1 l_gr_21 e_ov_ri_burns u_gr u_ov i_ri_burns o_ri_burns (by decide) rfl rfl (Nat.le_of_ble_eq_true rfl) rfl (Nat.le_of_ble_eq_true rfl) ⟨Nat.le_of_ble_eq_true rfl, Nat.le_of_ble_eq_true rfl⟩ hc_11 (fun r_14 X_13 hq_15 => ?_)
  obtain ⟨v_18, rfl, hX_17, hm_19, h_16⟩ := hk_12 _ _ hq_15
  show Ev E m_gr_burns 14 [(0, .ref a0), (1, .int x1)] [.int v_18] X_13 (0, 0) Q
  refine ev_iconst (v := 3) (pc := 14) d_gr_burns_14 kc_i_3 ?_
  refine ev_imul (pc := 15) d_gr_burns_15 ?_
  exact ev_iret (pc := 16) ⟨Nat.le_of_ble_eq_true rfl, Nat.le_of_ble_eq_true rfl⟩ d_gr_burns_16 rfl (vp_nar_int _) h_16
theorem b_ov_warms_0 {E : gp_E} {S : gp_S} {X : gp_H} {Q : Option Value → gp_H → Prop} {a0 : Nat} {c0 : Nat} {x1 : Int32} (hX : Lay S X) (ha0 : gp_at X a0 (c0, 0)) (hg0 : c0 < 13 ∧ gp_gid c0 = 7) (hh : (X.2.2.1 a0 0 = some 13 ∧ (∃ Qz_1, Ev E m_tr_begin 0 [(0, .ref 13), (1, .int 20)] [] X (0, 0) Qz_1 ∧ ∀ r X_4, Qz_1 r X_4 → (r = none ∧ Lay S X_4 ∧ gp_at X_4 a0 (c0, 0) ∧ (∃ Qz_10, Ev E m_ri_warms 0 [(0, .ref a0), (1, .int x1)] [] X_4 (0, 0) Qz_10 ∧ ∀ r X_13, Qz_10 r X_13 → ∃ v_18 : Int32, r = some (.int v_18) ∧ Lay S X_13 ∧ gp_at X_13 a0 (c0, 0) ∧ Q (some (.int (v_18 - (gI X_13 a0 1)))) X_13))))) : Ev E m_ov_warms 0 [(0, .ref a0), (1, .int x1)] [] X (0, 0) Q := by
  refine ev_aload_n (x := a0) (pc := 0) d_ov_warms_0 rfl ?_
  refine ev_getR (pc := 1) d_ov_warms_1 f_ov_9 ha0 hg0 rfl hh.1 ?_
  refine ev_bipush (v := 20) (pc := 4) d_ov_warms_4 kc_b_20 ?_
  obtain ⟨Qz_1, hc_2, hk_3⟩ := hh.2
  refine ev_callV (z := m_tr_begin) (as := [.int 20]) (rest := []) (pc := 6) d_ov_warms_6 (ly_at hX 13 rfl) lt13_10 rfl l_ov_15 i_tr_begin v_tr_begin o_tr_begin rfl rfl (Nat.le_of_ble_eq_true rfl) rfl (Nat.le_of_ble_eq_true rfl) ⟨Nat.le_of_ble_eq_true rfl, Nat.le_of_ble_eq_true rfl⟩ hc_2 (fun r_5 X_4 hq_6 => ?_)
  obtain ⟨rfl, hX_8, hm_9, h_7⟩ := hk_3 _ _ hq_6
  show Ev E m_ov_warms 9 [(0, .ref a0), (1, .int x1)] [] X_4 (0, 0) Q
  refine ev_aload_n (x := a0) (pc := 9) d_ov_warms_9 rfl ?_
  refine ev_iload_n (x := x1) (pc := 10) d_ov_warms_10 rfl ?_
  obtain ⟨Qz_10, hc_11, hk_12⟩ := h_7
  refine ev_callSU (z := m_ri_warms) (as := [.int x1]) (rest := []) (pc := 11) d_ov_warms_11 hm_9 hg0.1 l_ov_21 e_ri_ri_warms u_ov i_ri_warms o_ri_warms (by decide) rfl rfl (Nat.le_of_ble_eq_true rfl) rfl (Nat.le_of_ble_eq_true rfl) ⟨Nat.le_of_ble_eq_true rfl, Nat.le_of_ble_eq_true rfl⟩ hc_11 (fun r_14 X_13 hq_15 => ?_)
  obtain ⟨v_18, rfl, hX_17, hm_19, h_16⟩ := hk_12 _ _ hq_15
  show Ev E m_ov_warms 14 [(0, .ref a0), (1, .int x1)] [.int v_18] X_13 (0, 0) Q
  refine ev_aload_n (x := a0) (pc := 14) d_ov_warms_14 rfl ?_
  refine ev_getJ (v := (gI X_13 a0 1)) (pc := 15) d_ov_warms_15 f_ov_25 hm_19 hg0 rfl rfl ?_
  refine ev_isub (pc := 18) d_ov_warms_18 ?_
  exact ev_iret (pc := 19) ⟨Nat.le_of_ble_eq_true rfl, Nat.le_of_ble_eq_true rfl⟩ d_ov_warms_19 rfl (vp_nar_int _) h_16
theorem b_gr_fits_0 {E : gp_E} {S : gp_S} {X : gp_H} {Q : Option Value → gp_H → Prop} {a0 : Nat} {c0 : Nat} {x1 : Int32} (hX : Lay S X) (ha0 : gp_at X a0 (c0, 0)) (hg0 : c0 < 13 ∧ gp_gid c0 = 7) (hh : (X.2.2.1 a0 0 = some 13 ∧ (∃ Qz_1, Ev E m_tr_begin 0 [(0, .ref 13), (1, .int 31)] [] X (0, 0) Qz_1 ∧ ∀ r X_4, Qz_1 r X_4 → (r = none ∧ Lay S X_4 ∧ gp_at X_4 a0 (c0, 0) ∧ (∃ Qz_10, Ev E m_ri_fits 0 [(0, .ref a0), (1, .int (x1 - 1))] [] X_4 (0, 0) Qz_10 ∧ ∀ r X_13, Qz_10 r X_13 → ∃ v_18 : Int32, r = some (.int v_18) ∧ Lay S X_13 ∧ gp_at X_13 a0 (c0, 0) ∧ Q (some (.int v_18)) X_13))))) : Ev E m_gr_fits 0 [(0, .ref a0), (1, .int x1)] [] X (0, 0) Q := by
  refine ev_aload_n (x := a0) (pc := 0) d_gr_fits_0 rfl ?_
  refine ev_getR (pc := 1) d_gr_fits_1 f_gr_9 ha0 hg0 rfl hh.1 ?_
  refine ev_bipush (v := 31) (pc := 4) d_gr_fits_4 kc_b_31 ?_
  obtain ⟨Qz_1, hc_2, hk_3⟩ := hh.2
  refine ev_callV (z := m_tr_begin) (as := [.int 31]) (rest := []) (pc := 6) d_gr_fits_6 (ly_at hX 13 rfl) lt13_10 rfl l_gr_15 i_tr_begin v_tr_begin o_tr_begin rfl rfl (Nat.le_of_ble_eq_true rfl) rfl (Nat.le_of_ble_eq_true rfl) ⟨Nat.le_of_ble_eq_true rfl, Nat.le_of_ble_eq_true rfl⟩ hc_2 (fun r_5 X_4 hq_6 => ?_)
  obtain ⟨rfl, hX_8, hm_9, h_7⟩ := hk_3 _ _ hq_6
  show Ev E m_gr_fits 9 [(0, .ref a0), (1, .int x1)] [] X_4 (0, 0) Q
  refine ev_aload_n (x := a0) (pc := 9) d_gr_fits_9 rfl ?_
  refine ev_iload_n (x := x1) (pc := 10) d_gr_fits_10 rfl ?_
  refine ev_iconst (v := 1) (pc := 11) d_gr_fits_11 kc_i_1 ?_
  refine ev_isub (pc := 12) d_gr_fits_12 ?_
  obtain ⟨Qz_10, hc_11, hk_12⟩ := h_7
  refine ev_callSG (xc := "GasTurn$Oven") (z := m_ri_fits) (as := [.int (x1 - 1)]) (rest := []) (pc := 13) d_gr_fits_13 hm_9 hg0.1 l_gr_25 e_ov_ri_fits u_gr u_ov i_ri_fits o_ri_fits (by decide) rfl rfl (Nat.le_of_ble_eq_true rfl) rfl (Nat.le_of_ble_eq_true rfl) ⟨Nat.le_of_ble_eq_true rfl, Nat.le_of_ble_eq_true rfl⟩ hc_11 (fun r_14 X_13 hq_15 => ?_)
  obtain ⟨v_18, rfl, hX_17, hm_19, h_16⟩ := hk_12 _ _ hq_15
  show Ev E m_gr_fits 16 [(0, .ref a0), (1, .int x1)] [.int v_18] X_13 (0, 0) Q
  exact ev_iret (pc := 16) ⟨Nat.le_of_ble_eq_true rfl, Nat.le_of_ble_eq_true rfl⟩ d_gr_fits_16 rfl (vp_nar_int _) h_16
theorem b_fi_warms_0 {E : gp_E} {S : gp_S} {X : gp_H} {Q : Option Value → gp_H → Prop} {a0 : Nat} {x1 : Int32} (hX : Lay S X) (ha0 : gp_at X a0 (1, 0)) (hh : (X.2.2.1 a0 0 = some 13 ∧ (∃ Qz_1, Ev E m_tr_begin 0 [(0, .ref 13), (1, .int 41)] [] X (0, 0) Qz_1 ∧ ∀ r X_4, Qz_1 r X_4 → (r = none ∧ Lay S X_4 ∧ gp_at X_4 a0 (1, 0) ∧ (∃ Qz_10, Ev E m_ri_warms 0 [(0, .ref a0), (1, .int x1)] [] X_4 (0, 0) Qz_10 ∧ ∀ r X_13, Qz_10 r X_13 → ∃ v_18 : Int32, r = some (.int v_18) ∧ Lay S X_13 ∧ gp_at X_13 a0 (1, 0) ∧ (∃ Qz_21, Ev E m_fi_burns 0 [(0, .ref a0), (1, .int x1)] [] X_13 (0, 0) Qz_21 ∧ ∀ r X_24, Qz_21 r X_24 → ∃ v_29 : Int32, r = some (.int v_29) ∧ Lay S X_24 ∧ gp_at X_24 a0 (1, 0) ∧ Q (some (.int (v_18 + v_29))) X_24)))))) : Ev E m_fi_warms 0 [(0, .ref a0), (1, .int x1)] [] X (0, 0) Q := by
  refine ev_aload_n (x := a0) (pc := 0) d_fi_warms_0 rfl ?_
  refine ev_getR (pc := 1) d_fi_warms_1 f_fi_9 ha0 gg_1 rfl hh.1 ?_
  refine ev_bipush (v := 41) (pc := 4) d_fi_warms_4 kc_b_41 ?_
  obtain ⟨Qz_1, hc_2, hk_3⟩ := hh.2
  refine ev_callV (z := m_tr_begin) (as := [.int 41]) (rest := []) (pc := 6) d_fi_warms_6 (ly_at hX 13 rfl) lt13_10 rfl l_fi_15 i_tr_begin v_tr_begin o_tr_begin rfl rfl (Nat.le_of_ble_eq_true rfl) rfl (Nat.le_of_ble_eq_true rfl) ⟨Nat.le_of_ble_eq_true rfl, Nat.le_of_ble_eq_true rfl⟩ hc_2 (fun r_5 X_4 hq_6 => ?_)
  obtain ⟨rfl, hX_8, hm_9, h_7⟩ := hk_3 _ _ hq_6
  show Ev E m_fi_warms 9 [(0, .ref a0), (1, .int x1)] [] X_4 (0, 0) Q
  refine ev_aload_n (x := a0) (pc := 9) d_fi_warms_9 rfl ?_
  refine ev_iload_n (x := x1) (pc := 10) d_fi_warms_10 rfl ?_
  obtain ⟨Qz_10, hc_11, hk_12⟩ := h_7
  refine ev_callSU (z := m_ri_warms) (as := [.int x1]) (rest := []) (pc := 11) d_fi_warms_11 hm_9 lt13_1 l_fi_29 e_ri_ri_warms u_fi i_ri_warms o_ri_warms (by decide) rfl rfl (Nat.le_of_ble_eq_true rfl) rfl (Nat.le_of_ble_eq_true rfl) ⟨Nat.le_of_ble_eq_true rfl, Nat.le_of_ble_eq_true rfl⟩ hc_11 (fun r_14 X_13 hq_15 => ?_)
  obtain ⟨v_18, rfl, hX_17, hm_19, h_16⟩ := hk_12 _ _ hq_15
  show Ev E m_fi_warms 14 [(0, .ref a0), (1, .int x1)] [.int v_18] X_13 (0, 0) Q
  refine ev_aload_n (x := a0) (pc := 14) d_fi_warms_14 rfl ?_
  refine ev_iload_n (x := x1) (pc := 15) d_fi_warms_15 rfl ?_
  obtain ⟨Qz_21, hc_22, hk_23⟩ := h_16
  have kk_31 : ∀ r X_24, Qz_21 r X_24 → Ev E m_fi_warms 19 [(0, .ref a0), (1, .int x1)] (r.toList ++ [.int v_18]) X_24 (0, 0) Q := by
    intro r_25 X_24 hq_26
    obtain ⟨v_29, rfl, hX_28, hm_30, h_27⟩ := hk_23 _ _ hq_26
    show Ev E m_fi_warms 19 [(0, .ref a0), (1, .int x1)] [.int v_29, .int v_18] X_24 (0, 0) Q
    refine ev_iadd (pc := 19) d_fi_warms_19 ?_
    exact ev_iret (pc := 20) ⟨Nat.le_of_ble_eq_true rfl, Nat.le_of_ble_eq_true rfl⟩ d_fi_warms_20 rfl (vp_nar_int _) h_27
  exact ev_callV (z := m_fi_burns) (as := [.int x1]) (rest := [.int v_18]) (pc := 16) d_fi_warms_16 hm_19 lt13_1 rfl l_fi_32 i_fi_burns v_fi_burns o_fi_burns rfl rfl (Nat.le_of_ble_eq_true rfl) rfl (Nat.le_of_ble_eq_true rfl) ⟨Nat.le_of_ble_eq_true rfl, Nat.le_of_ble_eq_true rfl⟩ hc_22 kk_31
