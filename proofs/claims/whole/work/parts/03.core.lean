/-! the words that stay good at every later state -/
def lw_g : List Cond := lw_tbl.filter goodWord
theorem lw_g_of {w : Cond} (h : w ∈ lw_tbl) (hg : goodWord w = true) : w ∈ lw_g := List.mem_filter.mpr ⟨h, hg⟩
theorem lw_g_at {w : Cond} (i : Nat) (h : lw_tbl[i]? = some w) (hg : goodWord w = true) : w ∈ lw_g := lw_g_of (List.mem_of_getElem? h) hg
theorem lw_g_in {ws : List Cond} (h : ∀ w ∈ ws, w ∈ lw_g) : GoodIn lw_g ws := fun w hw => ⟨h w hw, good_of_word (List.mem_filter.mp (h w hw)).2⟩
theorem gp_cl_g (ci : Nat) (hci : ci < 13) : ∀ w ∈ u_ws (gp_R ci) (gp_T ci) (gp_nf ci), w ∈ lw_g := by
  intro w hw
  refine lw_g_of (gp_cl_ws ci hci w hw) ?_
  obtain ⟨k, -, rfl⟩ := List.mem_map.mp hw
  unfold u_lay
  split <;> rfl
/-! the abstract heap: how many cells; the kind of each (below 13 an object's, else an array's, with its length); references; numbers; longs -/
abbrev gp_H : Type := Nat × (Nat → Nat × Nat) × (Nat → Nat → Option Nat) × (Nat → Nat → Int32) × (Nat → Nat → Int64)
/-- what is fixed: classes, slots, array kinds, the first address, addresses outside -/
abbrev gp_G : Type := (Nat → ClassId) × (Nat → Nat → Nat) × (Nat → ClassId) × Nat × (Nat → Nat)
abbrev gp_b (G : gp_G) : Nat := G.2.2.2.1
abbrev gp_A (G : gp_G) : Nat → Prop := fun q => G.2.2.2.1 ≤ q
def gp_v (G : gp_G) : Value → Value
  | .ref a => .ref (G.2.2.2.1 + a)
  | .float k => .ref (G.2.2.2.2 k.toNat)
  | v => v
def gp_o (G : gp_G) (r : Option Nat) : Option Nat := r.map (fun a => G.2.2.2.1 + a)
theorem gp_v_rf (G : gp_G) (r : Option Nat) : gp_v G (va_rf r) = va_rf (gp_o G r) := by cases r <;> rfl
theorem gp_v_cat (G : gp_G) (v : Value) : (gp_v G v).category = v.category := by cases v <;> rfl
def gp_fv (G : gp_G) (X : gp_H) (i ci k : Nat) : Value := if gp_rf ci k then va_rf (gp_o G (X.2.2.1 i k)) else .int (X.2.2.2.1 i k)
def gp_ar (G : gp_G) (X : gp_H) (i : Nat) : Nat → (Nat → Int32) ⊕ (Nat → Int64) ⊕ (Nat → UInt32) ⊕ (Nat → UInt64) ⊕ (Nat → Option Nat)
  | 0 => .inl (X.2.2.2.1 i)
  | 1 => .inl (X.2.2.2.1 i)
  | 2 => .inr (.inl (X.2.2.2.2 i))
  | _ => .inr (.inr (.inr (.inr (fun j => gp_o G (X.2.2.1 i j)))))
def gp_e (G : gp_G) (X : gp_H) (i : Nat) : va_E :=
  if (X.2.1 i).1 < 13 then .inr ((X.2.1 i).1, (List.range (gp_nf (X.2.1 i).1)).map (gp_fv G X i (X.2.1 i).1)) else .inl (G.2.2.1 ((X.2.1 i).1 - 13), (X.2.1 i).2, gp_ar G X i ((X.2.1 i).1 - 13))
def gp_w (G : gp_G) (X : gp_H) : va_W := (List.range X.1).map (fun i => (G.2.2.2.1 + i, gp_e G X i))
theorem gp_w_at {G : gp_G} {X : gp_H} {i : Nat} (h : i < X.1) : (gp_w G X)[i]? = some (G.2.2.2.1 + i, gp_e G X i) := by
  unfold gp_w
  rw [List.getElem?_map, List.getElem?_range h]
  rfl
theorem gp_w_of {G : gp_G} {X : gp_H} {i : Nat} {q : Nat × va_E} (h : (gp_w G X)[i]? = some q) : i < X.1 ∧ q = (G.2.2.2.1 + i, gp_e G X i) := by
  have hl : i < X.1 := by
    have := (List.getElem?_eq_some_iff.mp h).1
    simpa [gp_w] using this
  rw [gp_w_at hl] at h
  exact ⟨hl, (Option.some.inj h).symm⟩
theorem gp_w_D (G : gp_G) (X : gp_H) : va_D (gp_A G) (gp_w G X) := by
  refine ⟨fun i j x y hi hj hxy => ?_, fun k q hk => ?_⟩
  · rw [(gp_w_of hi).2, (gp_w_of hj).2] at hxy
    have : G.2.2.2.1 + i = G.2.2.2.1 + j := hxy
    omega
  · rw [(gp_w_of hk).2]
    exact Nat.le_add_right _ _
theorem gp_w_set {G : gp_G} {X X' : gp_H} {i : Nat} (hn : X'.1 = X.1) (hj : ∀ j, j ≠ i → gp_e G X' j = gp_e G X j) : gp_w G X' = (gp_w G X).set i (G.2.2.2.1 + i, gp_e G X' i) := by
  apply List.ext_getElem?
  intro j
  by_cases hl : j < X.1
  · rw [gp_w_at (hn ▸ hl)]
    by_cases hji : j = i
    · subst hji
      rw [List.getElem?_set_self (by simpa [gp_w] using hl)]
    · rw [List.getElem?_set_ne (Ne.symm hji), gp_w_at hl, hj j hji]
  · rw [List.getElem?_eq_none (by simp [gp_w]; omega), List.getElem?_eq_none (by simp [gp_w]; omega)]
theorem gp_w_push {G : gp_G} {X X' : gp_H} (hn : X'.1 = X.1 + 1) (hj : ∀ j, j < X.1 → gp_e G X' j = gp_e G X j) : gp_w G X' = gp_w G X ++ [(G.2.2.2.1 + X.1, gp_e G X' X.1)] := by
  unfold gp_w
  rw [hn, List.range_succ, List.map_append]
  congr 1
  apply List.map_congr_left
  intro j h
  rw [hj j (List.mem_range.mp h)]
/-- an object's fields -/
theorem gp_e_obj {G : gp_G} {X : gp_H} {a ci z : Nat} (hk : X.2.1 a = (ci, z)) (hci : ci < 13) : gp_e G X a = .inr (ci, (List.range (gp_nf ci)).map (gp_fv G X a ci)) := by
  unfold gp_e
  rw [hk]
  exact if_pos hci
theorem gp_e_arr {G : gp_G} {X : gp_H} {a t n : Nat} (hk : X.2.1 a = (t + 13, n)) : gp_e G X a = .inl (G.2.2.1 t, n, gp_ar G X a t) := by
  unfold gp_e
  rw [hk]
  show (if t + 13 < 13 then _ else _) = _
  rw [if_neg (by omega)]
  rfl
theorem gp_fs_at {G : gp_G} {X : gp_H} {a ci k : Nat} (h : k < gp_nf ci) : ((List.range (gp_nf ci)).map (gp_fv G X a ci))[k]? = some (gp_fv G X a ci k) := by
  rw [List.getElem?_map, List.getElem?_range h]
  rfl
theorem gp_fs_set {G : gp_G} {X X' : gp_H} {a ci k : Nat} (hj : ∀ j, j ≠ k → gp_fv G X' a ci j = gp_fv G X a ci j) : (List.range (gp_nf ci)).map (gp_fv G X' a ci) = ((List.range (gp_nf ci)).map (gp_fv G X a ci)).set k (gp_fv G X' a ci k) := by
  apply List.ext_getElem?
  intro j
  by_cases hl : j < gp_nf ci
  · rw [gp_fs_at hl]
    by_cases hji : j = k
    · subst hji
      rw [List.getElem?_set_self (by simpa using hl)]
    · rw [List.getElem?_set_ne (Ne.symm hji), gp_fs_at hl, hj j hji]
  · rw [List.getElem?_eq_none (by simp; omega), List.getElem?_eq_none (by simp; omega)]
/-- writing a number, a reference, a long -/
def gp_up {α : Type} (f : Nat → Nat → α) (a k : Nat) (v : α) : Nat → Nat → α := fun i j => if i = a ∧ j = k then v else f i j
def gp_sI (X : gp_H) (a k : Nat) (v : Int32) : gp_H := (X.1, X.2.1, X.2.2.1, gp_up X.2.2.2.1 a k v, X.2.2.2.2)
def gp_sR (X : gp_H) (a k : Nat) (v : Option Nat) : gp_H := (X.1, X.2.1, gp_up X.2.2.1 a k v, X.2.2.2.1, X.2.2.2.2)
def gp_sL (X : gp_H) (a k : Nat) (v : Int64) : gp_H := (X.1, X.2.1, X.2.2.1, X.2.2.2.1, gp_up X.2.2.2.2 a k v)
theorem gp_up_ne {α : Type} {f : Nat → Nat → α} {a k i : Nat} {v : α} (h : i ≠ a) : gp_up f a k v i = f i := by
  funext j
  exact if_neg (fun q => h q.1)
theorem gp_up_nk {α : Type} {f : Nat → Nat → α} {a k i j : Nat} {v : α} (h : j ≠ k) : gp_up f a k v i j = f i j := if_neg (fun q => h q.2)
theorem gp_up_eq {α : Type} {f : Nat → Nat → α} {a k : Nat} {v : α} : gp_up f a k v a k = v := if_pos ⟨rfl, rfl⟩
theorem gp_up_row {α : Type} {f : Nat → Nat → α} {a k : Nat} {v : α} : gp_up f a k v a = fun j => if j = k then v else f a j := by
  funext j
  unfold gp_up
  by_cases h : j = k
  · rw [if_pos ⟨rfl, h⟩, if_pos h]
  · rw [if_neg (fun q => h q.2), if_neg h]
theorem gp_fv_sI {G : gp_G} {X : gp_H} {a k i : Nat} {v : Int32} (h : i ≠ a) (ci j : Nat) : gp_fv G (gp_sI X a k v) i ci j = gp_fv G X i ci j := by
  unfold gp_fv
  show (if gp_rf ci j then va_rf (gp_o G (X.2.2.1 i j)) else Value.int (gp_up X.2.2.2.1 a k v i j)) = _
  rw [gp_up_ne h]
theorem gp_ar_sI {G : gp_G} {X : gp_H} {a k i : Nat} {v : Int32} (h : i ≠ a) : ∀ t, gp_ar G (gp_sI X a k v) i t = gp_ar G X i t
  | 0 => by show Sum.inl (gp_up X.2.2.2.1 a k v i) = _; rw [gp_up_ne h]; rfl
  | 1 => by show Sum.inl (gp_up X.2.2.2.1 a k v i) = _; rw [gp_up_ne h]; rfl
  | 2 => rfl
  | n + 3 => rfl
theorem gp_e_sI {G : gp_G} {X : gp_H} {a k i : Nat} {v : Int32} (h : i ≠ a) : gp_e G (gp_sI X a k v) i = gp_e G X i := by
  unfold gp_e
  show (if (X.2.1 i).1 < 13 then Sum.inr ((X.2.1 i).1, (List.range (gp_nf (X.2.1 i).1)).map (gp_fv G (gp_sI X a k v) i (X.2.1 i).1)) else Sum.inl (G.2.2.1 ((X.2.1 i).1 - 13), (X.2.1 i).2, gp_ar G (gp_sI X a k v) i ((X.2.1 i).1 - 13))) = _
  rw [gp_ar_sI h, show gp_fv G (gp_sI X a k v) i (X.2.1 i).1 = gp_fv G X i (X.2.1 i).1 from funext fun j => gp_fv_sI h _ j]
theorem gp_fv_sR {G : gp_G} {X : gp_H} {a k i : Nat} {v : Option Nat} (h : i ≠ a) (ci j : Nat) : gp_fv G (gp_sR X a k v) i ci j = gp_fv G X i ci j := by
  unfold gp_fv
  show (if gp_rf ci j then va_rf (gp_o G (gp_up X.2.2.1 a k v i j)) else Value.int (X.2.2.2.1 i j)) = _
  rw [gp_up_ne h]
theorem gp_ar_sR {G : gp_G} {X : gp_H} {a k i : Nat} {v : Option Nat} (h : i ≠ a) : ∀ t, gp_ar G (gp_sR X a k v) i t = gp_ar G X i t
  | 0 => rfl
  | 1 => rfl
  | 2 => rfl
  | n + 3 => by
    show Sum.inr (Sum.inr (Sum.inr (Sum.inr (fun j => gp_o G (gp_up X.2.2.1 a k v i j))))) = _
    rw [gp_up_ne h]
    rfl
theorem gp_e_sR {G : gp_G} {X : gp_H} {a k i : Nat} {v : Option Nat} (h : i ≠ a) : gp_e G (gp_sR X a k v) i = gp_e G X i := by
  unfold gp_e
  show (if (X.2.1 i).1 < 13 then Sum.inr ((X.2.1 i).1, (List.range (gp_nf (X.2.1 i).1)).map (gp_fv G (gp_sR X a k v) i (X.2.1 i).1)) else Sum.inl (G.2.2.1 ((X.2.1 i).1 - 13), (X.2.1 i).2, gp_ar G (gp_sR X a k v) i ((X.2.1 i).1 - 13))) = _
  rw [gp_ar_sR h, show gp_fv G (gp_sR X a k v) i (X.2.1 i).1 = gp_fv G X i (X.2.1 i).1 from funext fun j => gp_fv_sR h _ j]
theorem gp_e_sL {G : gp_G} {X : gp_H} {a k i : Nat} {v : Int64} (h : i ≠ a) : gp_e G (gp_sL X a k v) i = gp_e G X i := by
  have ha : ∀ t, gp_ar G (gp_sL X a k v) i t = gp_ar G X i t := fun t => match t with
    | 0 => rfl
    | 1 => rfl
    | 2 => by show Sum.inr (Sum.inl (gp_up X.2.2.2.2 a k v i)) = _; rw [gp_up_ne h]; rfl
    | n + 3 => rfl
  unfold gp_e
  show (if (X.2.1 i).1 < 13 then Sum.inr ((X.2.1 i).1, (List.range (gp_nf (X.2.1 i).1)).map (gp_fv G X i (X.2.1 i).1)) else Sum.inl (G.2.2.1 ((X.2.1 i).1 - 13), (X.2.1 i).2, gp_ar G (gp_sL X a k v) i ((X.2.1 i).1 - 13))) = _
  rw [ha]
/-- a new cell of a kind, with what it holds -/
def gp_nw (X : gp_H) (q : Nat × Nat) : gp_H := (X.1 + 1, (fun i => if i = X.1 then q else X.2.1 i), (fun i => if i = X.1 then (fun _ => none) else X.2.2.1 i), (fun i => if i = X.1 then (fun _ => 0) else X.2.2.2.1 i), (fun i => if i = X.1 then (fun _ => 0) else X.2.2.2.2 i))
theorem gp_e_nw {G : gp_G} {X : gp_H} {q : Nat × Nat} {i : Nat} (h : i ≠ X.1) : gp_e G (gp_nw X q) i = gp_e G X i := by
  have h1 : (gp_nw X q).2.1 i = X.2.1 i := if_neg h
  have h2 : (gp_nw X q).2.2.1 i = X.2.2.1 i := if_neg h
  have h3 : (gp_nw X q).2.2.2.1 i = X.2.2.2.1 i := if_neg h
  have h4 : (gp_nw X q).2.2.2.2 i = X.2.2.2.2 i := if_neg h
  have ha : ∀ t, gp_ar G (gp_nw X q) i t = gp_ar G X i t := fun t => match t with
    | 0 => by show Sum.inl ((gp_nw X q).2.2.2.1 i) = _; rw [h3]; rfl
    | 1 => by show Sum.inl ((gp_nw X q).2.2.2.1 i) = _; rw [h3]; rfl
    | 2 => by show Sum.inr (Sum.inl ((gp_nw X q).2.2.2.2 i)) = _; rw [h4]; rfl
    | n + 3 => by
      show Sum.inr (Sum.inr (Sum.inr (Sum.inr (fun j => gp_o G ((gp_nw X q).2.2.1 i j))))) = _
      rw [h2]
      rfl
  have hf : ∀ ci, gp_fv G (gp_nw X q) i ci = gp_fv G X i ci := fun ci => funext fun j => by
    unfold gp_fv
    rw [h2, h3]
  unfold gp_e
  rw [h1, ha, hf]
theorem gp_nw_kind (X : gp_H) (q : Nat × Nat) : (gp_nw X q).2.1 X.1 = q := if_pos rfl
