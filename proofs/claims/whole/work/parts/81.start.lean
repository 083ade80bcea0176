/-! the script, read by the law; the start -/
section EVL
variable {E : gp_E} {y : gp_M} {pc : Nat} {L : List (Nat × Value)} {st : List Value} {X : gp_H} {u : Nat × Nat} {Q : Option Value → gp_H → Prop}
theorem ev_scld {i : Int32} (hd : decode y.2.1 pc = .ok (.iaload, 1)) (hi : vp_in i E.2.1) (kk : Ev E y (pc + 1) L (.int (E.2.2 i.toNatClampNeg) :: st) X u Q) : Ev E y pc L (.int i :: .float 100 :: st) X u Q := by
  intro G p e s m args below meth c H locs ls Z hG hF hH hl
  obtain ⟨⟨hx, hlt⟩, -⟩ := hG.2.2.2.2.2.2.2.2.2.2
  exact va_sld hG.1 hG.2.1 hx (Nat.lt_of_lt_of_le hlt hG.2.2.2.2.2.2.2.2.2.1) (Nat.not_le.mpr hlt) hH.2.2 hi hd (kk G p e s m args below meth c H locs ls Z hG hF hH hl)
theorem ev_sclen (hd : decode y.2.1 pc = .ok (.arraylength, 1)) (kk : Ev E y (pc + 1) L (.int (Int32.ofNat E.2.1) :: st) X u Q) : Ev E y pc L (.float 100 :: st) X u Q := by
  intro G p e s m args below meth c H locs ls Z hG hF hH hl
  obtain ⟨⟨hx, hlt⟩, -⟩ := hG.2.2.2.2.2.2.2.2.2.2
  exact va_slen hG.1 hG.2.1 hx (Nat.lt_of_lt_of_le hlt hG.2.2.2.2.2.2.2.2.2.1) (Nat.not_le.mpr hlt) hH.2.2 hd (kk G p e s m args below meth c H locs ls Z hG hF hH hl)
end EVL
/-- nothing is there -/
def gp_X0 : gp_H := (0, fun _ => (0, 0), fun _ _ => none, fun _ _ => 0, fun _ _ => 0)
def gp_tm (i : Nat) : Term := .string "GasTurn$Laws" (if i = 0 then 38 else 48)
theorem gp_arrOf {args : Array Value} {s : State} {ty : FieldType} (h : (Cond.arrayClass ty).before args s = true) : ∃ cA : ClassId, ArrOfT s cA ty ∧ s.vm.findClass ("[" ++ ty.toString) = some cA := by
  simp only [Cond.before, Cond.holds, Cond.value] at h
  cases h1 : s.vm.findClass ("[" ++ ty.toString) with
  | none => simp [h1] at h
  | some cA =>
    cases h2 : s.vm.classes[cA]? with
    | none => simp [h1, h2] at h
    | some kA =>
      simp only [h1, h2, Option.bind_some, Option.map_some] at h
      cases h3 : kA.kind with
      | array comp t =>
        rw [h3] at h
        have e : t = ty := by simpa using h
        subst e
        exact ⟨cA, fun n z => ⟨fun k q => (by cases q), kA, h2, comp, h3⟩, rfl⟩
      | _ => rw [h3] at h; simp at h
