/-- a method: name, bytes, locals, what it returns, its room -/
abbrev gp_M : Type := MethodName × ByteArray × Nat × Option FieldType × Room
def gp_ws (y : gp_M) : List Cond := .code y.1 y.2.1 y.2.2.1 y.2.2.2.1 :: lw_g
/-- the launch, the script's length and ints -/
abbrev gp_E : Type := Launch × Nat × (Nat → Int32)
def gp_tys (G : gp_G) : List (ClassId × FieldType) := [(G.2.2.1 0, .int), (G.2.2.1 1, .boolean), (G.2.2.1 2, .long), (G.2.2.1 3, .object "GasTurn$Ring"), (G.2.2.1 4, .object "GasTurn$Home"), (G.2.2.1 5, .array .int)]
def gp_len : List Nat := [24, 25]
def gp_byt : List (List Int32) := [[98, 97, 114, 32, 115, 101, 99, 116, 111, 114, 32, 49, 32, 119, 101, 101, 107, 32, 51, 32, 116, 111, 32, 51], [112, 97, 121, 32, 52, 32, 99, 108, 97, 115, 115, 32, 49, 32, 102, 114, 111, 109, 32, 119, 101, 101, 107, 32, 51]]
/-- words of nest mates and of casts -/
def gp_isn : Cond → Bool
  | .methodLinkNest .. => true
  | .castable .. => true
  | _ => false
def lw_n : List Cond := lw_tbl.filter gp_isn
theorem lw_n_at {w : Cond} (i : Nat) (h : lw_tbl[i]? = some w) (hg : gp_isn w = true) : w ∈ lw_n := List.mem_filter.mpr ⟨List.mem_of_getElem? h, hg⟩
/-- kinds that are not under another -/
def lw_c : List (String × String) := [("GasTurn$Ring", "GasTurn$Oven"), ("GasTurn$Ring", "GasTurn$Grill"), ("GasTurn$Ring", "GasTurn$Fire"), ("GasTurn$Oven", "GasTurn$Grill"), ("GasTurn$Oven", "GasTurn$Fire"), ("GasTurn$Grill", "GasTurn$Fire"), ("GasTurn$Fire", "GasTurn$Oven"), ("GasTurn$Fire", "GasTurn$Grill")]
def gp_N (s : State) : Prop := (∀ w ∈ lw_n, va_Nw w s) ∧ (∀ q ∈ lw_c, va_Nc q.1 q.2 s) ∧ va_AO "GasTurn$Ring" s ∧ va_AO "GasTurn$Home" s ∧ (Cond.arrayOver (.array .int)).before #[] s = true
/-- what lies outside: the script, two texts, two statics -/
def gp_Z (E : gp_E) (G : gp_G) (s : State) (H : Heap) : Prop :=
  (va_X (G.2.2.2.2 100) E.2.1 E.2.2 s H ∧ G.2.2.2.2 100 < G.2.2.2.1) ∧ vk_S 2 gp_len gp_byt (fun i => G.2.2.2.2 (2 * i)) (fun i => G.2.2.2.2 (2 * i + 1)) (gp_A G) s H ∧
  (vk_R "GasTurn$Laws" 38 "bar sector 1 week 3 to 3" (G.2.2.2.2 0) s ∧ vk_R "GasTurn$Laws" 48 "pay 4 class 1 from week 3" (G.2.2.2.2 2) s) ∧
  va_Z "java/lang/String" "COMPACT_STRINGS" "Z" (.int 1) (gp_A G) s H ∧ va_Zq "jdk/internal/util/Preconditions" "SIOOBE_FORMATTER" "Ljava/util/function/BiFunction;" (gp_A G) s H ∧ gp_N s
def gp_ok (E : gp_E) (G : gp_G) (y : gp_M) (p : Program) (s : State) (m : MethodId) (args : Array Value) (meth : Method) (c : Code) : Prop :=
  p.tables.exec = Jvm.exec ∧ c.code = y.2.1 ∧ c.maxLocals = y.2.2.1 ∧ meth.sig.returnType = y.2.2.2.1 ∧ s.vm.findClass y.1.cls = some m.cls ∧ (∀ w ∈ lw_g, w.before args s = true) ∧ meth.locks = false ∧ meth.name = y.1.name ∧ va_K (G.1, G.2.1) gp_cl (gp_tys G) s ∧ G.2.2.2.1 ≤ s.heap.size ∧ gp_Z E G s s.heap
def gp_h (G : gp_G) (X : gp_H) (s : State) (H : Heap) (locs : List Loc) : Prop :=
  H.size = G.2.2.2.1 + X.1 ∧ va_P (G.1, G.2.1) gp_cl (gp_w G X) H ∧ va_S (gp_A G) s.heap H locs
/-- a return at pc with an answer -/
def gp_rt (y : gp_M) (pc : Nat) (r : Option Value) : Prop :=
  (r = none ∧ decode y.2.1 pc = .ok (.return_, 1) ∧ y.2.2.2.1 = none) ∨ (∃ v ty, r = some (.int v) ∧ decode y.2.1 pc = .ok (.ireturn, 1) ∧ y.2.2.2.1 = some ty ∧ narrow ty (.int v) = .int v) ∨ (∃ v, r = some (.long v) ∧ decode y.2.1 pc = .ok (.lreturn, 1) ∧ y.2.2.2.1 = some .long) ∨
  (∃ v rt, r = some v ∧ (v = .null ∨ ∃ a, v = .ref a) ∧ decode y.2.1 pc = .ok (.areturn, 1) ∧ y.2.2.2.1 = some rt ∧ ((∃ n, rt = .object n) ∨ ∃ t, rt = .array t))
def gp_fin (E : gp_E) (G : gp_G) (y : gp_M) (p : Program) (e : Env) (s : State) (m : MethodId) (args : Array Value) (below : List Frame) (meth : Method) (c : Code) (Z : State → Prop) (Q : Option Value → gp_H → Prop) : Prop :=
  ∀ (r : Option Value) (X : gp_H) (H : Heap) (locs : List Loc) (cells slots pc : Nat) (ls : Array Slot), Q r X → gp_h G X s H locs → cells ≤ y.2.2.2.2.cells → slots ≤ y.2.2.2.2.slots → gp_rt y pc r →
    W p E.1 e y.2.2.2.2 s m args below meth c H locs cells slots Z (F0 m pc ls (r.toList.map (gp_v G)))
def gp_L (G : gp_G) (L : List (Nat × Value)) : List (Nat × Value) := L.map (fun q => (q.1, gp_v G q.2))
/-- THE JUDGEMENT: at pc of a method, with these locals, this stack and this heap, so many cells and slots made: it comes to an answer and a heap with Q -/
def Ev (E : gp_E) (y : gp_M) (pc : Nat) (L : List (Nat × Value)) (st : List Value) (X : gp_H) (u : Nat × Nat) (Q : Option Value → gp_H → Prop) : Prop :=
  ∀ (G : gp_G) (p : Program) (e : Env) (s : State) (m : MethodId) (args : Array Value) (below : List Frame) (meth : Method) (c : Code) (H : Heap) (locs : List Loc) (ls : Array Slot) (Z : State → Prop),
    gp_ok E G y p s m args meth c → gp_fin E G y p e s m args below meth c Z Q → gp_h G X s H locs → lv_has ls y.2.2.1 (gp_L G L) →
    W p E.1 e y.2.2.2.2 s m args below meth c H locs u.1 u.2 Z (F0 m pc ls (st.map (gp_v G)))
/-- a local by its number -/
def gp_lk : List (Nat × Value) → Nat → Option Value
  | [], _ => none
  | q :: t, i => if q.1 = i then some q.2 else gp_lk t i
theorem gp_lk_mem : ∀ {L : List (Nat × Value)} {i : Nat} {v : Value}, gp_lk L i = some v → (i, v) ∈ L
  | [], _, _, h => by cases h
  | q :: t, i, v, h => by
    unfold gp_lk at h
    by_cases hq : q.1 = i
    · rw [if_pos hq] at h
      cases h
      subst hq
      exact List.mem_cons_self
    · rw [if_neg hq] at h
      exact List.mem_cons_of_mem _ (gp_lk_mem h)
theorem gp_lk_at {G : gp_G} {ls : Array Slot} {n : Nat} {L : List (Nat × Value)} {i : Nat} {v : Value} (hl : lv_has ls n (gp_L G L)) (h : gp_lk L i = some v) : ls[i]? = some (.val (gp_v G v)) :=
  hl.2.2 (i, gp_v G v) (List.mem_map.mpr ⟨(i, v), gp_lk_mem h, rfl⟩)
/-- a local becomes another -/
def gp_st : List (Nat × Value) → Nat → Value → List (Nat × Value)
  | [], i, v => [(i, v)]
  | q :: t, i, v => if i < q.1 then (i, v) :: q :: t else if i = q.1 then (i, v) :: t else q :: gp_st t i v
/-- the locals stand in order, no long's second half at i -/
def gp_so (i : Nat) : List (Nat × Value) → Bool
  | [] => true
  | q :: t => (t.all (fun r => Nat.blt q.1 r.1)) && !(q.1 + 1 == i && q.2.category == 2) && gp_so i t
theorem gp_st_mem : ∀ {L : List (Nat × Value)} {i : Nat} {v : Value}, gp_so i L = true → ∀ q ∈ gp_st L i v, q = (i, v) ∨ (q ∈ L ∧ q.1 ≠ i ∧ ¬ (q.1 + 1 = i ∧ q.2.category = 2))
  | [], i, v, _, q, hq => by
    rw [gp_st, List.mem_singleton] at hq
    exact Or.inl hq
  | r :: t, i, v, ho, q, hq => by
    unfold gp_so at ho
    simp only [Bool.and_eq_true, List.all_eq_true, Bool.not_eq_true', Bool.and_eq_false_iff, beq_eq_false_iff_ne, ne_eq] at ho
    obtain ⟨⟨h1, h2⟩, h3⟩ := ho
    have h2' : ¬ (r.1 + 1 = i ∧ r.2.category = 2) := fun ⟨a, b⟩ => h2.elim (fun z => z a) (fun z => z b)
    have hlt : ∀ x ∈ t, r.1 < x.1 := fun x hx => Nat.le_of_ble_eq_true (h1 x hx)
    unfold gp_st at hq
    have sub : ∀ {t : List (Nat × Value)}, gp_so i t = true → ∀ x ∈ t, ¬ (x.1 + 1 = i ∧ x.2.category = 2) := by
      intro t
      induction t with
      | nil => intro _ x hx; cases hx
      | cons z t ih =>
        intro hz x hx
        unfold gp_so at hz
        simp only [Bool.and_eq_true, List.all_eq_true, Bool.not_eq_true', Bool.and_eq_false_iff, beq_eq_false_iff_ne, ne_eq] at hz
        rcases List.mem_cons.mp hx with rfl | hx
        · exact fun ⟨a, b⟩ => hz.1.2.elim (fun z => z a) (fun z => z b)
        · exact ih hz.2 x hx
    by_cases hi : i < r.1
    · rw [if_pos hi] at hq
      rcases List.mem_cons.mp hq with rfl | hq
      · exact Or.inl rfl
      · refine Or.inr ⟨hq, ?_, ?_⟩
        · rcases List.mem_cons.mp hq with rfl | hq
          · omega
          · have := hlt q hq; omega
        · rcases List.mem_cons.mp hq with rfl | hq
          · exact h2'
          · exact sub h3 q hq
    · rw [if_neg hi] at hq
      by_cases he : i = r.1
      · rw [if_pos he] at hq
        rcases List.mem_cons.mp hq with rfl | hq
        · exact Or.inl rfl
        · refine Or.inr ⟨List.mem_cons_of_mem _ hq, ?_, sub h3 q hq⟩
          have := hlt q hq; omega
      · rw [if_neg he] at hq
        rcases List.mem_cons.mp hq with rfl | hq
        · exact Or.inr ⟨List.mem_cons_self, fun z => he z.symm, h2'⟩
        · rcases gp_st_mem h3 q hq with h | h
          · exact Or.inl h
          · exact Or.inr ⟨List.mem_cons_of_mem _ h.1, h.2⟩
theorem gp_has_mono {ls : Array Slot} {n : Nat} {l l' : List (Nat × Value)} (h : lv_has ls n l) (hs : ∀ q ∈ l', q ∈ l) : lv_has ls n l' := ⟨h.1, h.2.1, fun q hq => h.2.2 q (hs q hq)⟩
theorem gp_st_has {G : gp_G} {ls : Array Slot} {n i : Nat} {L : List (Nat × Value)} {v : Value} (ho : gp_so i L = true) (h : lv_has ls n ((i, gp_v G v) :: (gp_L G L).filter (fun q => !(q.1 == i) && !(q.1 + 1 == i && q.2.category == 2)))) : lv_has ls n (gp_L G (gp_st L i v)) := by
  refine gp_has_mono h (fun q hq => ?_)
  obtain ⟨x, hx, rfl⟩ := List.mem_map.mp hq
  rcases gp_st_mem ho x hx with rfl | ⟨h1, h2, h3⟩
  · exact List.mem_cons_self
  · refine List.mem_cons_of_mem _ (List.mem_filter.mpr ⟨List.mem_map.mpr ⟨x, h1, rfl⟩, ?_⟩)
    simp only [gp_v_cat, Bool.and_eq_true, Bool.not_eq_true', beq_eq_false_iff_ne, ne_eq, Bool.and_eq_false_iff]
    exact ⟨h2, by
      by_cases z : x.1 + 1 = i
      · exact Or.inr (fun w => h3 ⟨z, w⟩)
      · exact Or.inl z⟩
/-- fewer locals -/
theorem ev_sub {E : gp_E} {y : gp_M} {pc : Nat} {L : List (Nat × Value)} {st : List Value} {X : gp_H} {u : Nat × Nat} {Q : Option Value → gp_H → Prop} (L' : List (Nat × Value)) (hs : ∀ q ∈ L', gp_lk L q.1 = some q.2) (k : Ev E y pc L' st X u Q) : Ev E y pc L st X u Q := by
  intro G p e s m args below meth c H locs ls Z hG hF hH hl
  refine k G p e s m args below meth c H locs ls Z hG hF hH (gp_has_mono hl (fun q hq => ?_))
  obtain ⟨x, hx, rfl⟩ := List.mem_map.mp hq
  exact List.mem_map.mpr ⟨x, gp_lk_mem (hs x hx), rfl⟩
theorem ev_post {E : gp_E} {y : gp_M} {pc : Nat} {L : List (Nat × Value)} {st : List Value} {X : gp_H} {u : Nat × Nat} {Q Q' : Option Value → gp_H → Prop} (hq : ∀ r X', Q' r X' → Q r X') (k : Ev E y pc L st X u Q') : Ev E y pc L st X u Q := by
  intro G p e s m args below meth c H locs ls Z hG hF hH hl
  exact k G p e s m args below meth c H locs ls Z hG (fun r X H locs cells slots pc ls h => hF r X H locs cells slots pc ls (hq r X h)) hH hl
