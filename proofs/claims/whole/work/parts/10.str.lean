/-! texts: the two constants are .float 0 and .float 2, their bytes .float 1 and .float 3 -/
section EVS
variable {E : gp_E} {y : gp_M} {pc : Nat} {L : List (Nat × Value)} {st : List Value} {X : gp_H} {u : Nat × Nat} {Q : Option Value → gp_H → Prop}
theorem ev_ldcS0 (hd : decode y.2.1 pc = .ok (.ldc 38, 2)) (kk : Ev E y (pc + 2) L (.float 0 :: st) X u Q) (hc : y.1.cls = "GasTurn$Laws" := by rfl) : Ev E y pc L st X u Q := by
  intro G p e s m args below meth c H locs ls Z hG hF hH hl
  have ho := hG.2.2.2.2.1
  rw [hc] at ho
  exact va_ldcS hG.1 hG.2.1 ho hG.2.2.2.2.2.2.2.2.2.2.2.2.1.1 hd (kk G p e s m args below meth c H locs ls Z hG hF hH hl)
theorem ev_ldcS2 (hd : decode y.2.1 pc = .ok (.ldc 48, 2)) (kk : Ev E y (pc + 2) L (.float 2 :: st) X u Q) (hc : y.1.cls = "GasTurn$Laws" := by rfl) : Ev E y pc L st X u Q := by
  intro G p e s m args below meth c H locs ls Z hG hF hH hl
  have ho := hG.2.2.2.2.1
  rw [hc] at ho
  exact va_ldcS hG.1 hG.2.1 ho hG.2.2.2.2.2.2.2.2.2.2.2.2.1.2 hd (kk G p e s m args below meth c H locs ls Z hG hF hH hl)
theorem gp_ad {G : gp_G} {f : UInt32} {i : Nat} (h : f.toNat = i) : gp_v G (.float f) = .ref (G.2.2.2.2 i) := by
  show Value.ref (G.2.2.2.2 f.toNat) = _
  rw [h]
theorem ev_sgetV {f g : UInt32} {i : Nat} (hi : i < 2) (hf : f.toNat = 2 * i) (hg : g.toNat = 2 * i + 1) (hd : decode y.2.1 pc = .ok (.getfield 9, 3)) (hw : Cond.fieldLink y.1.cls 9 "java/lang/String" "value" "[B" ∈ lw_g) (kk : Ev E y (pc + 3) L (.float g :: st) X u Q) : Ev E y pc L (.float f :: st) X u Q := by
  intro G p e s m args below meth c H locs ls Z hG hF hH hl
  have h1 := kk G p e s m args below meth c H locs ls Z hG hF hH hl
  rw [List.map_cons, gp_ad hg] at h1
  rw [List.map_cons, gp_ad hf]
  exact vk_getf hG.1 hG.2.1 (hG.2.2.2.2.2.2.2.2.2.2.2.1.1 i hi).2.2.1 hH.2.2 hG.2.2.2.2.1 (hG.2.2.2.2.2.1 _ hw) (fun _ h => h) hd h1
theorem ev_sgetC {f : UInt32} {i : Nat} (hi : i < 2) (hf : f.toNat = 2 * i) (hd : decode y.2.1 pc = .ok (.getfield 15, 3)) (hw : Cond.fieldLink y.1.cls 15 "java/lang/String" "coder" "B" ∈ lw_g) (kk : Ev E y (pc + 3) L (.int 0 :: st) X u Q) : Ev E y pc L (.float f :: st) X u Q := by
  intro G p e s m args below meth c H locs ls Z hG hF hH hl
  rw [List.map_cons, gp_ad hf]
  exact vk_getf hG.1 hG.2.1 (hG.2.2.2.2.2.2.2.2.2.2.2.1.1 i hi).2.1 hH.2.2 hG.2.2.2.2.1 (hG.2.2.2.2.2.1 _ hw) (fun _ h => h) hd (kk G p e s m args below meth c H locs ls Z hG hF hH hl)
theorem ev_slen {f : UInt32} {i : Nat} {v : Int32} (hi : i < 2) (hf : f.toNat = 2 * i + 1) (hv : Int32.ofNat (gp_len.getD i 0) = v) (hd : decode y.2.1 pc = .ok (.arraylength, 1)) (kk : Ev E y (pc + 1) L (.int v :: st) X u Q) : Ev E y pc L (.float f :: st) X u Q := by
  intro G p e s m args below meth c H locs ls Z hG hF hH hl
  rw [List.map_cons, gp_ad hf]
  exact va_tlen hG.1 hG.2.1 (hG.2.2.2.2.2.2.2.2.2.2.2.1.1 i hi).2.2.2 hH.2.2 hv hd (kk G p e s m args below meth c H locs ls Z hG hF hH hl)
theorem ev_sbald {f : UInt32} {i : Nat} {j v : Int32} (hi : i < 2) (hf : f.toNat = 2 * i + 1) (hj : vp_in j (gp_len.getD i 0)) (hv : (gp_byt.getD i []).getD j.toNatClampNeg 0 = v) (hd : decode y.2.1 pc = .ok (.baload, 1)) (kk : Ev E y (pc + 1) L (.int v :: st) X u Q) : Ev E y pc L (.int j :: .float f :: st) X u Q := by
  intro G p e s m args below meth c H locs ls Z hG hF hH hl
  rw [List.map_cons, List.map_cons, gp_ad hf]
  exact va_tb hG.1 hG.2.1 (hG.2.2.2.2.2.2.2.2.2.2.2.1.1 i hi).2.2.2 hH.2.2 hj (by rw [hv]; rfl) hd (kk G p e s m args below meth c H locs ls Z hG hF hH hl)
theorem ev_gets {n : Nat} (hd : decode y.2.1 pc = .ok (.getstatic n, 3)) (hw : Cond.fieldLink y.1.cls n "java/lang/String" "COMPACT_STRINGS" "Z" ∈ lw_g) (kk : Ev E y (pc + 3) L (.int 1 :: st) X u Q) : Ev E y pc L st X u Q := by
  intro G p e s m args below meth c H locs ls Z hG hF hH hl
  exact va_gets hG.1 hG.2.1 hG.2.2.2.2.2.2.2.2.2.2.2.2.2.1 hH.2.2 hG.2.2.2.2.1 (hG.2.2.2.2.2.1 _ hw) (fun _ h => h) hd (kk G p e s m args below meth c H locs ls Z hG hF hH hl)
/-- the formatter: nothing is asked of it but that it is one or none -/
theorem ev_getsF {n : Nat} {a b a' b' : Int32} (hd : decode y.2.1 pc = .ok (.getstatic n, 3)) (hw : Cond.fieldLink y.1.cls n "jdk/internal/util/Preconditions" "SIOOBE_FORMATTER" "Ljava/util/function/BiFunction;" ∈ lw_g) (hQ : ∀ r X', Q r X' → r = none)
    (kk : ∀ v, v = .null ∨ v = .float 50 → Ev E y (pc + 3) [(0, .int a), (1, .int b)] [v, .int b', .int a'] X u Q) : Ev E y pc [(0, .int a), (1, .int b)] [.int b', .int a'] X u Q := by
  intro G p e s m args below meth c H locs ls Z hG hF hH hl
  rcases hG.2.2.2.2.2.2.2.2.2.2.2.2.2.2.1 with hz | ⟨t, hz⟩
  · exact va_gets hG.1 hG.2.1 hz hH.2.2 hG.2.2.2.2.1 (hG.2.2.2.2.2.1 _ hw) (fun _ h => h) hd (kk .null (Or.inl rfl) G p e s m args below meth c H locs ls Z hG hF hH hl)
  · refine va_gets hG.1 hG.2.1 hz hH.2.2 hG.2.2.2.2.1 (hG.2.2.2.2.2.1 _ hw) (fun _ h => h) hd ?_
    have hZ' : gp_Z E (G.1, G.2.1, G.2.2.1, G.2.2.2.1, fun k => if k = 50 then t else G.2.2.2.2 k) s s.heap := by
      obtain ⟨k1, k2, k3, k4, k5, k6⟩ := hG.2.2.2.2.2.2.2.2.2.2
      refine ⟨k1, ⟨fun i hi => ?_, fun i j hi hj => ?_⟩, k3, k4, k5, k6⟩
      · match i, hi with
        | 0, h => exact k2.1 0 h
        | 1, h => exact k2.1 1 h
      · match i, hi, j, hj with
        | 0, h, 0, h' => exact k2.2 0 0 h h'
        | 0, h, 1, h' => exact k2.2 0 1 h h'
        | 1, h, 0, h' => exact k2.2 1 0 h h'
        | 1, h, 1, h' => exact k2.2 1 1 h h'
    have hG' : gp_ok E (G.1, G.2.1, G.2.2.1, G.2.2.2.1, fun k => if k = 50 then t else G.2.2.2.2 k) y p s m args meth c := by
      obtain ⟨k1, k2, k3, k4, k5, k6, k7, k8, k9, k10, -⟩ := hG
      exact ⟨k1, k2, k3, k4, k5, k6, k7, k8, k9, k10, hZ'⟩
    have h1 := kk (.float 50) (Or.inr rfl) (G.1, G.2.1, G.2.2.1, G.2.2.2.1, fun k => if k = 50 then t else G.2.2.2.2 k) p e s m args below meth c H locs ls Z hG' (fun r X' H' locs' cells slots pc' ls' hq => by
      cases hQ r X' hq
      exact hF none X' H' locs' cells slots pc' ls' hq) hH hl
    exact h1
end EVS
