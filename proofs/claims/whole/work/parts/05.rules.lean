section EVR
variable {E : gp_E} {y : gp_M} {pc : Nat} {L : List (Nat × Value)} {st : List Value} {X : gp_H} {u : Nat × Nat} {Q : Option Value → gp_H → Prop}
theorem ev_iconst {n : Int} {v : Int32} (hd : decode y.2.1 pc = .ok (.iconst n, 1)) (hv : Int32.ofInt n = v) (k : Ev E y (pc + 1) L (.int v :: st) X u Q) : Ev E y pc L (st) X u Q := by
  intro G p e s m args below meth c H locs ls Z hG hF hH hl
  exact lv_iconst hG.1 hG.2.1 hd hv (k G p e s m args below meth c H locs ls Z hG hF hH hl)
theorem ev_bipush {n : Int} {v : Int32} (hd : decode y.2.1 pc = .ok (.bipush n, 2)) (hv : (Int8.ofInt n).toInt32 = v) (k : Ev E y (pc + 2) L (.int v :: st) X u Q) : Ev E y pc L (st) X u Q := by
  intro G p e s m args below meth c H locs ls Z hG hF hH hl
  exact lv_bipush hG.1 hG.2.1 hd hv (k G p e s m args below meth c H locs ls Z hG hF hH hl)
theorem ev_sipush {n : Int} {v : Int32} (hd : decode y.2.1 pc = .ok (.sipush n, 3)) (hv : (Int16.ofInt n).toInt32 = v) (k : Ev E y (pc + 3) L (.int v :: st) X u Q) : Ev E y pc L (st) X u Q := by
  intro G p e s m args below meth c H locs ls Z hG hF hH hl
  exact lv_sipush hG.1 hG.2.1 hd hv (k G p e s m args below meth c H locs ls Z hG hF hH hl)
theorem ev_lconst {n : Fin 2} {v : Int64} (hd : decode y.2.1 pc = .ok (.lconst n, 1)) (hv : Int64.ofNat (n : Nat) = v) (k : Ev E y (pc + 1) L (.long v :: st) X u Q) : Ev E y pc L (st) X u Q := by
  intro G p e s m args below meth c H locs ls Z hG hF hH hl
  exact lv_lconst hG.1 hG.2.1 hd hv (k G p e s m args below meth c H locs ls Z hG hF hH hl)
theorem ev_null  (hd : decode y.2.1 pc = .ok (.aconst_null, 1))  (k : Ev E y (pc + 1) L (.null :: st) X u Q) : Ev E y pc L (st) X u Q := by
  intro G p e s m args below meth c H locs ls Z hG hF hH hl
  exact lv_null hG.1 hG.2.1 hd  (k G p e s m args below meth c H locs ls Z hG hF hH hl)
theorem ev_iadd {a b : Int32} (hd : decode y.2.1 pc = .ok (.iadd, 1))  (k : Ev E y (pc + 1) L (.int (a + b) :: st) X u Q) : Ev E y pc L (.int b :: .int a :: st) X u Q := by
  intro G p e s m args below meth c H locs ls Z hG hF hH hl
  exact lv_iadd hG.1 hG.2.1 hd  (k G p e s m args below meth c H locs ls Z hG hF hH hl)
theorem ev_isub {a b : Int32} (hd : decode y.2.1 pc = .ok (.isub, 1))  (k : Ev E y (pc + 1) L (.int (a - b) :: st) X u Q) : Ev E y pc L (.int b :: .int a :: st) X u Q := by
  intro G p e s m args below meth c H locs ls Z hG hF hH hl
  exact lv_isub hG.1 hG.2.1 hd  (k G p e s m args below meth c H locs ls Z hG hF hH hl)
theorem ev_imul {a b : Int32} (hd : decode y.2.1 pc = .ok (.imul, 1))  (k : Ev E y (pc + 1) L (.int (a * b) :: st) X u Q) : Ev E y pc L (.int b :: .int a :: st) X u Q := by
  intro G p e s m args below meth c H locs ls Z hG hF hH hl
  exact lv_imul hG.1 hG.2.1 hd  (k G p e s m args below meth c H locs ls Z hG hF hH hl)
theorem ev_iand {a b : Int32} (hd : decode y.2.1 pc = .ok (.iand, 1))  (k : Ev E y (pc + 1) L (.int (a &&& b) :: st) X u Q) : Ev E y pc L (.int b :: .int a :: st) X u Q := by
  intro G p e s m args below meth c H locs ls Z hG hF hH hl
  exact lv_iand hG.1 hG.2.1 hd  (k G p e s m args below meth c H locs ls Z hG hF hH hl)
theorem ev_ior {a b : Int32} (hd : decode y.2.1 pc = .ok (.ior, 1))  (k : Ev E y (pc + 1) L (.int (a ||| b) :: st) X u Q) : Ev E y pc L (.int b :: .int a :: st) X u Q := by
  intro G p e s m args below meth c H locs ls Z hG hF hH hl
  exact lv_ior hG.1 hG.2.1 hd  (k G p e s m args below meth c H locs ls Z hG hF hH hl)
theorem ev_ixor {a b : Int32} (hd : decode y.2.1 pc = .ok (.ixor, 1))  (k : Ev E y (pc + 1) L (.int (a ^^^ b) :: st) X u Q) : Ev E y pc L (.int b :: .int a :: st) X u Q := by
  intro G p e s m args below meth c H locs ls Z hG hF hH hl
  exact lv_ixor hG.1 hG.2.1 hd  (k G p e s m args below meth c H locs ls Z hG hF hH hl)
theorem ev_ishl {a b : Int32} (hd : decode y.2.1 pc = .ok (.ishl, 1))  (k : Ev E y (pc + 1) L (.int (a <<< (b &&& 31)) :: st) X u Q) : Ev E y pc L (.int b :: .int a :: st) X u Q := by
  intro G p e s m args below meth c H locs ls Z hG hF hH hl
  exact lv_ishl hG.1 hG.2.1 hd  (k G p e s m args below meth c H locs ls Z hG hF hH hl)
theorem ev_ishr {a b : Int32} (hd : decode y.2.1 pc = .ok (.ishr, 1))  (k : Ev E y (pc + 1) L (.int (a >>> (b &&& 31)) :: st) X u Q) : Ev E y pc L (.int b :: .int a :: st) X u Q := by
  intro G p e s m args below meth c H locs ls Z hG hF hH hl
  exact lv_ishr hG.1 hG.2.1 hd  (k G p e s m args below meth c H locs ls Z hG hF hH hl)
theorem ev_iushr {a b : Int32} (hd : decode y.2.1 pc = .ok (.iushr, 1))  (k : Ev E y (pc + 1) L (.int ((a.toUInt32 >>> (b.toUInt32 &&& Int32.toUInt32 31)).toInt32) :: st) X u Q) : Ev E y pc L (.int b :: .int a :: st) X u Q := by
  intro G p e s m args below meth c H locs ls Z hG hF hH hl
  exact lv_iushr hG.1 hG.2.1 hd rfl (k G p e s m args below meth c H locs ls Z hG hF hH hl)
theorem ev_idiv {a b : Int32} (hd : decode y.2.1 pc = .ok (.idiv, 1)) (hn : ¬ b = 0) (k : Ev E y (pc + 1) L (.int (a / b) :: st) X u Q) : Ev E y pc L (.int b :: .int a :: st) X u Q := by
  intro G p e s m args below meth c H locs ls Z hG hF hH hl
  exact lv_idiv hG.1 hG.2.1 hd hn (k G p e s m args below meth c H locs ls Z hG hF hH hl)
theorem ev_irem {a b : Int32} (hd : decode y.2.1 pc = .ok (.irem, 1)) (hn : ¬ b = 0) (k : Ev E y (pc + 1) L (.int (a - a / b * b) :: st) X u Q) : Ev E y pc L (.int b :: .int a :: st) X u Q := by
  intro G p e s m args below meth c H locs ls Z hG hF hH hl
  exact lv_irem hG.1 hG.2.1 hd hn (k G p e s m args below meth c H locs ls Z hG hF hH hl)
theorem ev_ineg {a : Int32} (hd : decode y.2.1 pc = .ok (.ineg, 1))  (k : Ev E y (pc + 1) L (.int (-a) :: st) X u Q) : Ev E y pc L (.int a :: st) X u Q := by
  intro G p e s m args below meth c H locs ls Z hG hF hH hl
  exact lv_ineg hG.1 hG.2.1 hd  (k G p e s m args below meth c H locs ls Z hG hF hH hl)
theorem ev_ladd {a b : Int64} (hd : decode y.2.1 pc = .ok (.ladd, 1))  (k : Ev E y (pc + 1) L (.long (a + b) :: st) X u Q) : Ev E y pc L (.long b :: .long a :: st) X u Q := by
  intro G p e s m args below meth c H locs ls Z hG hF hH hl
  exact lv_ladd hG.1 hG.2.1 hd  (k G p e s m args below meth c H locs ls Z hG hF hH hl)
theorem ev_lsub {a b : Int64} (hd : decode y.2.1 pc = .ok (.lsub, 1))  (k : Ev E y (pc + 1) L (.long (a - b) :: st) X u Q) : Ev E y pc L (.long b :: .long a :: st) X u Q := by
  intro G p e s m args below meth c H locs ls Z hG hF hH hl
  exact lv_lsub hG.1 hG.2.1 hd  (k G p e s m args below meth c H locs ls Z hG hF hH hl)
theorem ev_lmul {a b : Int64} (hd : decode y.2.1 pc = .ok (.lmul, 1))  (k : Ev E y (pc + 1) L (.long (a * b) :: st) X u Q) : Ev E y pc L (.long b :: .long a :: st) X u Q := by
  intro G p e s m args below meth c H locs ls Z hG hF hH hl
  exact lv_lmul hG.1 hG.2.1 hd  (k G p e s m args below meth c H locs ls Z hG hF hH hl)
theorem ev_ldiv {a b : Int64} (hd : decode y.2.1 pc = .ok (.ldiv, 1)) (hn : ¬ b = 0) (k : Ev E y (pc + 1) L (.long (a / b) :: st) X u Q) : Ev E y pc L (.long b :: .long a :: st) X u Q := by
  intro G p e s m args below meth c H locs ls Z hG hF hH hl
  exact lv_ldiv hG.1 hG.2.1 hd hn (k G p e s m args below meth c H locs ls Z hG hF hH hl)
theorem ev_lcmp {a b : Int64} (hd : decode y.2.1 pc = .ok (.lcmp, 1))  (k : Ev E y (pc + 1) L (.int (lg_cmp a b) :: st) X u Q) : Ev E y pc L (.long b :: .long a :: st) X u Q := by
  intro G p e s m args below meth c H locs ls Z hG hF hH hl
  exact W.lcmp hG.1 hG.2.1 hd  (k G p e s m args below meth c H locs ls Z hG hF hH hl)
theorem ev_i2l {a : Int32} (hd : decode y.2.1 pc = .ok (.i2l, 1))  (k : Ev E y (pc + 1) L (.long a.toInt64 :: st) X u Q) : Ev E y pc L (.int a :: st) X u Q := by
  intro G p e s m args below meth c H locs ls Z hG hF hH hl
  exact lv_i2l hG.1 hG.2.1 hd rfl (k G p e s m args below meth c H locs ls Z hG hF hH hl)
theorem ev_i2b {a : Int32} (hd : decode y.2.1 pc = .ok (.i2b, 1))  (k : Ev E y (pc + 1) L (.int a.toInt8.toInt32 :: st) X u Q) : Ev E y pc L (.int a :: st) X u Q := by
  intro G p e s m args below meth c H locs ls Z hG hF hH hl
  exact lv_i2b hG.1 hG.2.1 hd rfl (k G p e s m args below meth c H locs ls Z hG hF hH hl)
theorem ev_i2s {a : Int32} (hd : decode y.2.1 pc = .ok (.i2s, 1))  (k : Ev E y (pc + 1) L (.int a.toInt16.toInt32 :: st) X u Q) : Ev E y pc L (.int a :: st) X u Q := by
  intro G p e s m args below meth c H locs ls Z hG hF hH hl
  exact lv_i2s hG.1 hG.2.1 hd rfl (k G p e s m args below meth c H locs ls Z hG hF hH hl)
theorem ev_i2c {a v : Int32} (hd : decode y.2.1 pc = .ok (.i2c, 1)) (hv : (a.toUInt32 % 65536).toInt32 = v) (k : Ev E y (pc + 1) L (.int v :: st) X u Q) : Ev E y pc L (.int a :: st) X u Q := by
  intro G p e s m args below meth c H locs ls Z hG hF hH hl
  exact lv_i2c hG.1 hG.2.1 hd hv (k G p e s m args below meth c H locs ls Z hG hF hH hl)
theorem ev_dup {v : Value} (hd : decode y.2.1 pc = .ok (.dup, 1)) (hv : v.category = 1) (k : Ev E y (pc + 1) L (v :: v :: st) X u Q) : Ev E y pc L (v :: st) X u Q := by
  intro G p e s m args below meth c H locs ls Z hG hF hH hl
  exact lv_dup hG.1 hG.2.1 hd (by rw [gp_v_cat]; exact hv) (k G p e s m args below meth c H locs ls Z hG hF hH hl)
theorem ev_pop {v : Value} (hd : decode y.2.1 pc = .ok (.pop, 1)) (hv : v.category = 1) (k : Ev E y (pc + 1) L (st) X u Q) : Ev E y pc L (v :: st) X u Q := by
  intro G p e s m args below meth c H locs ls Z hG hF hH hl
  exact lv_pop hG.1 hG.2.1 hd (by rw [gp_v_cat]; exact hv) (k G p e s m args below meth c H locs ls Z hG hF hH hl)
theorem ev_dup_x1 {v w : Value} (hd : decode y.2.1 pc = .ok (.dup_x1, 1)) (hv : v.category = 1) (hw : w.category = 1) (k : Ev E y (pc + 1) L (v :: w :: v :: st) X u Q) : Ev E y pc L (v :: w :: st) X u Q := by
  intro G p e s m args below meth c H locs ls Z hG hF hH hl
  exact lv_dup_x1 hG.1 hG.2.1 hd (by rw [gp_v_cat]; exact hv) (by rw [gp_v_cat]; exact hw) (k G p e s m args below meth c H locs ls Z hG hF hH hl)
theorem ev_dup2 {v w : Value} (hd : decode y.2.1 pc = .ok (.dup2, 1)) (hv : v.category = 1) (hw : w.category = 1) (k : Ev E y (pc + 1) L (v :: w :: v :: w :: st) X u Q) : Ev E y pc L (v :: w :: st) X u Q := by
  intro G p e s m args below meth c H locs ls Z hG hF hH hl
  exact lv_dup2_11 hG.1 hG.2.1 hd (by rw [gp_v_cat]; exact hv) (by rw [gp_v_cat]; exact hw) (k G p e s m args below meth c H locs ls Z hG hF hH hl)
theorem ev_iload_n {n : Fin 4} {x : Int32} (hd : decode y.2.1 pc = .ok (.iload_n n, 1)) (hv : gp_lk L (n : Nat) = some (.int x)) (k : Ev E y (pc + 1) L (.int x :: st) X u Q) : Ev E y pc L st X u Q := by
  intro G p e s m args below meth c H locs ls Z hG hF hH hl
  exact lv_iload_n hG.1 hG.2.1 hd rfl (gp_lk_at hl hv) (k G p e s m args below meth c H locs ls Z hG hF hH hl)
theorem ev_iload {n : Nat} {x : Int32} (hd : decode y.2.1 pc = .ok (.iload n, 2)) (hv : gp_lk L n = some (.int x)) (k : Ev E y (pc + 2) L (.int x :: st) X u Q) : Ev E y pc L st X u Q := by
  intro G p e s m args below meth c H locs ls Z hG hF hH hl
  exact lv_iload hG.1 hG.2.1 hd (gp_lk_at hl hv) (k G p e s m args below meth c H locs ls Z hG hF hH hl)
theorem ev_lload_n {n : Fin 4} {x : Int64} (hd : decode y.2.1 pc = .ok (.lload_n n, 1)) (hv : gp_lk L (n : Nat) = some (.long x)) (k : Ev E y (pc + 1) L (.long x :: st) X u Q) : Ev E y pc L st X u Q := by
  intro G p e s m args below meth c H locs ls Z hG hF hH hl
  exact lv_lload_n hG.1 hG.2.1 hd rfl (gp_lk_at hl hv) (k G p e s m args below meth c H locs ls Z hG hF hH hl)
theorem ev_lload {n : Nat} {x : Int64} (hd : decode y.2.1 pc = .ok (.lload n, 2)) (hv : gp_lk L n = some (.long x)) (k : Ev E y (pc + 2) L (.long x :: st) X u Q) : Ev E y pc L st X u Q := by
  intro G p e s m args below meth c H locs ls Z hG hF hH hl
  exact lv_lload hG.1 hG.2.1 hd (gp_lk_at hl hv) (k G p e s m args below meth c H locs ls Z hG hF hH hl)
theorem ev_aload_n {n : Fin 4} {x : Nat} (hd : decode y.2.1 pc = .ok (.aload_n n, 1)) (hv : gp_lk L (n : Nat) = some (.ref x)) (k : Ev E y (pc + 1) L (.ref x :: st) X u Q) : Ev E y pc L st X u Q := by
  intro G p e s m args below meth c H locs ls Z hG hF hH hl
  exact lv_aload_n hG.1 hG.2.1 hd rfl (gp_lk_at hl hv) (k G p e s m args below meth c H locs ls Z hG hF hH hl)
theorem ev_aload {n : Nat} {x : Nat} (hd : decode y.2.1 pc = .ok (.aload n, 2)) (hv : gp_lk L n = some (.ref x)) (k : Ev E y (pc + 2) L (.ref x :: st) X u Q) : Ev E y pc L st X u Q := by
  intro G p e s m args below meth c H locs ls Z hG hF hH hl
  exact lv_aload hG.1 hG.2.1 hd (gp_lk_at hl hv) (k G p e s m args below meth c H locs ls Z hG hF hH hl)
theorem ev_aload_nS {n : Fin 4} {x : UInt32} (hd : decode y.2.1 pc = .ok (.aload_n n, 1)) (hv : gp_lk L (n : Nat) = some (.float x)) (k : Ev E y (pc + 1) L (.float x :: st) X u Q) : Ev E y pc L st X u Q := by
  intro G p e s m args below meth c H locs ls Z hG hF hH hl
  exact lv_aload_n hG.1 hG.2.1 hd rfl (gp_lk_at hl hv) (k G p e s m args below meth c H locs ls Z hG hF hH hl)
theorem ev_aloadS {n : Nat} {x : UInt32} (hd : decode y.2.1 pc = .ok (.aload n, 2)) (hv : gp_lk L n = some (.float x)) (k : Ev E y (pc + 2) L (.float x :: st) X u Q) : Ev E y pc L st X u Q := by
  intro G p e s m args below meth c H locs ls Z hG hF hH hl
  exact lv_aload hG.1 hG.2.1 hd (gp_lk_at hl hv) (k G p e s m args below meth c H locs ls Z hG hF hH hl)
theorem ev_aload_nN {n : Fin 4}  (hd : decode y.2.1 pc = .ok (.aload_n n, 1)) (hv : gp_lk L (n : Nat) = some (.null)) (k : Ev E y (pc + 1) L (.null :: st) X u Q) : Ev E y pc L st X u Q := by
  intro G p e s m args below meth c H locs ls Z hG hF hH hl
  exact lv_aload_nN hG.1 hG.2.1 hd rfl (gp_lk_at hl hv) (k G p e s m args below meth c H locs ls Z hG hF hH hl)
theorem ev_aloadN {n : Nat}  (hd : decode y.2.1 pc = .ok (.aload n, 2)) (hv : gp_lk L n = some (.null)) (k : Ev E y (pc + 2) L (.null :: st) X u Q) : Ev E y pc L st X u Q := by
  intro G p e s m args below meth c H locs ls Z hG hF hH hl
  exact lv_aloadN hG.1 hG.2.1 hd (gp_lk_at hl hv) (k G p e s m args below meth c H locs ls Z hG hF hH hl)
theorem ev_istore_n {n : Fin 4} {x : Int32} {L2 : List (Nat × Value)} (hd : decode y.2.1 pc = .ok (.istore_n n, 1)) (ho : gp_so (n : Nat) L = true) (hn : (n : Nat) < y.2.2.1) (hL : gp_st L (n : Nat) (.int x) = L2) (k : Ev E y (pc + 1) L2 st X u Q) : Ev E y pc L (.int x :: st) X u Q := by
  subst hL
  intro G p e s m args below meth c H locs ls Z hG hF hH hl
  exact lv_istore_n hG.1 hG.2.1 hd rfl hl hn rfl (fun ls hl => k G p e s m args below meth c H locs ls Z hG hF hH (gp_st_has (v := .int x) ho hl))
theorem ev_istore {n : Nat} {x : Int32} {L2 : List (Nat × Value)} (hd : decode y.2.1 pc = .ok (.istore n, 2)) (ho : gp_so n L = true) (hn : n < y.2.2.1) (hL : gp_st L n (.int x) = L2) (k : Ev E y (pc + 2) L2 st X u Q) : Ev E y pc L (.int x :: st) X u Q := by
  subst hL
  intro G p e s m args below meth c H locs ls Z hG hF hH hl
  exact lv_istore hG.1 hG.2.1 hd hl hn rfl (fun ls hl => k G p e s m args below meth c H locs ls Z hG hF hH (gp_st_has (v := .int x) ho hl))
theorem ev_astore_n {n : Fin 4} {x : Nat} {L2 : List (Nat × Value)} (hd : decode y.2.1 pc = .ok (.astore_n n, 1)) (ho : gp_so (n : Nat) L = true) (hn : (n : Nat) < y.2.2.1) (hL : gp_st L (n : Nat) (.ref x) = L2) (k : Ev E y (pc + 1) L2 st X u Q) : Ev E y pc L (.ref x :: st) X u Q := by
  subst hL
  intro G p e s m args below meth c H locs ls Z hG hF hH hl
  exact lv_astore_n hG.1 hG.2.1 hd rfl hl hn rfl (fun ls hl => k G p e s m args below meth c H locs ls Z hG hF hH (gp_st_has (v := .ref x) ho hl))
theorem ev_astore {n : Nat} {x : Nat} {L2 : List (Nat × Value)} (hd : decode y.2.1 pc = .ok (.astore n, 2)) (ho : gp_so n L = true) (hn : n < y.2.2.1) (hL : gp_st L n (.ref x) = L2) (k : Ev E y (pc + 2) L2 st X u Q) : Ev E y pc L (.ref x :: st) X u Q := by
  subst hL
  intro G p e s m args below meth c H locs ls Z hG hF hH hl
  exact lv_astore hG.1 hG.2.1 hd hl hn rfl (fun ls hl => k G p e s m args below meth c H locs ls Z hG hF hH (gp_st_has (v := .ref x) ho hl))
theorem ev_astore_nS {n : Fin 4} {x : UInt32} {L2 : List (Nat × Value)} (hd : decode y.2.1 pc = .ok (.astore_n n, 1)) (ho : gp_so (n : Nat) L = true) (hn : (n : Nat) < y.2.2.1) (hL : gp_st L (n : Nat) (.float x) = L2) (k : Ev E y (pc + 1) L2 st X u Q) : Ev E y pc L (.float x :: st) X u Q := by
  subst hL
  intro G p e s m args below meth c H locs ls Z hG hF hH hl
  exact lv_astore_n hG.1 hG.2.1 hd rfl hl hn rfl (fun ls hl => k G p e s m args below meth c H locs ls Z hG hF hH (gp_st_has (v := .float x) ho hl))
theorem ev_astoreS {n : Nat} {x : UInt32} {L2 : List (Nat × Value)} (hd : decode y.2.1 pc = .ok (.astore n, 2)) (ho : gp_so n L = true) (hn : n < y.2.2.1) (hL : gp_st L n (.float x) = L2) (k : Ev E y (pc + 2) L2 st X u Q) : Ev E y pc L (.float x :: st) X u Q := by
  subst hL
  intro G p e s m args below meth c H locs ls Z hG hF hH hl
  exact lv_astore hG.1 hG.2.1 hd hl hn rfl (fun ls hl => k G p e s m args below meth c H locs ls Z hG hF hH (gp_st_has (v := .float x) ho hl))
theorem ev_astore_nN {n : Fin 4}  {L2 : List (Nat × Value)} (hd : decode y.2.1 pc = .ok (.astore_n n, 1)) (ho : gp_so (n : Nat) L = true) (hn : (n : Nat) < y.2.2.1) (hL : gp_st L (n : Nat) (.null) = L2) (k : Ev E y (pc + 1) L2 st X u Q) : Ev E y pc L (.null :: st) X u Q := by
  subst hL
  intro G p e s m args below meth c H locs ls Z hG hF hH hl
  exact lv_astore_nN hG.1 hG.2.1 hd rfl hl hn rfl (fun ls hl => k G p e s m args below meth c H locs ls Z hG hF hH (gp_st_has (v := .null) ho hl))
theorem ev_astoreN {n : Nat}  {L2 : List (Nat × Value)} (hd : decode y.2.1 pc = .ok (.astore n, 2)) (ho : gp_so n L = true) (hn : n < y.2.2.1) (hL : gp_st L n (.null) = L2) (k : Ev E y (pc + 2) L2 st X u Q) : Ev E y pc L (.null :: st) X u Q := by
  subst hL
  intro G p e s m args below meth c H locs ls Z hG hF hH hl
  exact lv_astoreN hG.1 hG.2.1 hd hl hn rfl (fun ls hl => k G p e s m args below meth c H locs ls Z hG hF hH (gp_st_has (v := .null) ho hl))
theorem gp_st_has2 {G : gp_G} {ls : Array Slot} {n i : Nat} {L : List (Nat × Value)} {v : Value} (ho : gp_so i L = true) (ho2 : gp_lk L (i + 1) = none) (h : lv_has ls n ((i, gp_v G v) :: (gp_L G L).filter (fun q => !(q.1 == i) && (!(q.1 == i + 1) && !(q.1 + 1 == i && q.2.category == 2))))) : lv_has ls n (gp_L G (gp_st L i v)) := by
  have hnone : ∀ {L : List (Nat × Value)}, gp_lk L (i + 1) = none → ∀ x ∈ L, x.1 ≠ i + 1 := by
    intro L
    induction L with
    | nil => intro _ x hx; cases hx
    | cons z t ih =>
      intro hz x hx
      unfold gp_lk at hz
      by_cases hq : z.1 = i + 1
      · rw [if_pos hq] at hz; cases hz
      · rw [if_neg hq] at hz
        rcases List.mem_cons.mp hx with rfl | hx
        · exact hq
        · exact ih hz x hx
  refine gp_has_mono h (fun q hq => ?_)
  obtain ⟨x, hx, rfl⟩ := List.mem_map.mp hq
  rcases gp_st_mem ho x hx with rfl | ⟨h1, h2, h3⟩
  · exact List.mem_cons_self
  · refine List.mem_cons_of_mem _ (List.mem_filter.mpr ⟨List.mem_map.mpr ⟨x, h1, rfl⟩, ?_⟩)
    simp only [gp_v_cat, Bool.and_eq_true, Bool.not_eq_true', beq_eq_false_iff_ne, ne_eq, Bool.and_eq_false_iff]
    exact ⟨h2, hnone ho2 x h1, by
      by_cases z : x.1 + 1 = i
      · exact Or.inr (fun w => h3 ⟨z, w⟩)
      · exact Or.inl z⟩
theorem ev_lstore_n {n : Fin 4} {x : Int64} {L2 : List (Nat × Value)} (hd : decode y.2.1 pc = .ok (.lstore_n n, 1)) (ho : gp_so (n : Nat) L = true) (ho2 : gp_lk L ((n : Nat) + 1) = none) (hn : (n : Nat) + 1 < y.2.2.1) (hL : gp_st L (n : Nat) (.long x) = L2) (k : Ev E y (pc + 1) L2 st X u Q) : Ev E y pc L (.long x :: st) X u Q := by
  subst hL
  intro G p e s m args below meth c H locs ls Z hG hF hH hl
  exact lv_lstore_n hG.1 hG.2.1 hd rfl hl hn rfl (fun ls hl => k G p e s m args below meth c H locs ls Z hG hF hH (gp_st_has2 (v := .long x) ho ho2 hl))
theorem ev_lstore {n : Nat} {x : Int64} {L2 : List (Nat × Value)} (hd : decode y.2.1 pc = .ok (.lstore n, 2)) (ho : gp_so n L = true) (ho2 : gp_lk L (n + 1) = none) (hn : n + 1 < y.2.2.1) (hL : gp_st L n (.long x) = L2) (k : Ev E y (pc + 2) L2 st X u Q) : Ev E y pc L (.long x :: st) X u Q := by
  subst hL
  intro G p e s m args below meth c H locs ls Z hG hF hH hl
  exact lv_lstore hG.1 hG.2.1 hd hl hn rfl (fun ls hl => k G p e s m args below meth c H locs ls Z hG hF hH (gp_st_has2 (v := .long x) ho ho2 hl))
theorem ev_iinc {i : Nat} {n : Int} {x v : Int32} {L2 : List (Nat × Value)} (hd : decode y.2.1 pc = .ok (.iinc i n, 3)) (hx : gp_lk L i = some (.int x)) (hv : x + Int32.ofInt n = v) (ho : gp_so i L = true) (hn : i < y.2.2.1) (hL : gp_st L i (.int v) = L2) (k : Ev E y (pc + 3) L2 st X u Q) : Ev E y pc L st X u Q := by
  subst hL
  intro G p e s m args below meth c H locs ls Z hG hF hH hl
  obtain ⟨j, hj⟩ := List.getElem?_of_mem (List.mem_map.mpr ⟨(i, Value.int x), gp_lk_mem hx, rfl⟩ : (i, gp_v G (.int x)) ∈ gp_L G L)
  exact lv_iinc hG.1 hG.2.1 hd hl hj hv hn rfl (fun ls hl => k G p e s m args below meth c H locs ls Z hG hF hH (gp_st_has (v := .int v) ho hl))
theorem ev_goto {off : Int} {tgt : Nat} (hd : decode y.2.1 pc = .ok (.goto off, 3)) (ht : (pc : Int) + off = (tgt : Int)) (k : Ev E y tgt L st X u Q) : Ev E y pc L st X u Q := by
  intro G p e s m args below meth c H locs ls Z hG hF hH hl
  exact lv_goto hG.1 hG.2.1 hd ht (k G p e s m args below meth c H locs ls Z hG hF hH hl)
theorem ev_if_eq {x : Int32} {off : Int} {tgt : Nat} (hd : decode y.2.1 pc = .ok (.ifCond .eq off, 3)) (ht : (pc : Int) + off = (tgt : Int)) (kt : x = 0 → Ev E y tgt L st X u Q) (kf : ¬ x = 0 → Ev E y (pc + 3) L st X u Q) : Ev E y pc L (.int x :: st) X u Q := by
  intro G p e s m args below meth c H locs ls Z hG hF hH hl
  exact lv_if_eq hG.1 hG.2.1 hd ht (fun q => kt q G p e s m args below meth c H locs ls Z hG hF hH hl) (fun q => kf q G p e s m args below meth c H locs ls Z hG hF hH hl)
theorem ev_icmp_eq {x z : Int32} {off : Int} {tgt : Nat} (hd : decode y.2.1 pc = .ok (.if_icmp .eq off, 3)) (ht : (pc : Int) + off = (tgt : Int)) (kt : x = z → Ev E y tgt L st X u Q) (kf : ¬ x = z → Ev E y (pc + 3) L st X u Q) : Ev E y pc L (.int z :: .int x :: st) X u Q := by
  intro G p e s m args below meth c H locs ls Z hG hF hH hl
  exact lv_icmp_eq hG.1 hG.2.1 hd ht (fun q => kt q G p e s m args below meth c H locs ls Z hG hF hH hl) (fun q => kf q G p e s m args below meth c H locs ls Z hG hF hH hl)
theorem ev_if_ne {x : Int32} {off : Int} {tgt : Nat} (hd : decode y.2.1 pc = .ok (.ifCond .ne off, 3)) (ht : (pc : Int) + off = (tgt : Int)) (kt : ¬ x = 0 → Ev E y tgt L st X u Q) (kf : x = 0 → Ev E y (pc + 3) L st X u Q) : Ev E y pc L (.int x :: st) X u Q := by
  intro G p e s m args below meth c H locs ls Z hG hF hH hl
  exact lv_if_ne hG.1 hG.2.1 hd ht (fun q => kt q G p e s m args below meth c H locs ls Z hG hF hH hl) (fun q => kf q G p e s m args below meth c H locs ls Z hG hF hH hl)
theorem ev_icmp_ne {x z : Int32} {off : Int} {tgt : Nat} (hd : decode y.2.1 pc = .ok (.if_icmp .ne off, 3)) (ht : (pc : Int) + off = (tgt : Int)) (kt : ¬ x = z → Ev E y tgt L st X u Q) (kf : x = z → Ev E y (pc + 3) L st X u Q) : Ev E y pc L (.int z :: .int x :: st) X u Q := by
  intro G p e s m args below meth c H locs ls Z hG hF hH hl
  exact lv_icmp_ne hG.1 hG.2.1 hd ht (fun q => kt q G p e s m args below meth c H locs ls Z hG hF hH hl) (fun q => kf q G p e s m args below meth c H locs ls Z hG hF hH hl)
theorem ev_if_lt {x : Int32} {off : Int} {tgt : Nat} (hd : decode y.2.1 pc = .ok (.ifCond .lt off, 3)) (ht : (pc : Int) + off = (tgt : Int)) (kt : x < 0 → Ev E y tgt L st X u Q) (kf : ¬ x < 0 → Ev E y (pc + 3) L st X u Q) : Ev E y pc L (.int x :: st) X u Q := by
  intro G p e s m args below meth c H locs ls Z hG hF hH hl
  exact lv_if_lt hG.1 hG.2.1 hd ht (fun q => kt q G p e s m args below meth c H locs ls Z hG hF hH hl) (fun q => kf q G p e s m args below meth c H locs ls Z hG hF hH hl)
theorem ev_icmp_lt {x z : Int32} {off : Int} {tgt : Nat} (hd : decode y.2.1 pc = .ok (.if_icmp .lt off, 3)) (ht : (pc : Int) + off = (tgt : Int)) (kt : x < z → Ev E y tgt L st X u Q) (kf : ¬ x < z → Ev E y (pc + 3) L st X u Q) : Ev E y pc L (.int z :: .int x :: st) X u Q := by
  intro G p e s m args below meth c H locs ls Z hG hF hH hl
  exact lv_icmp_lt hG.1 hG.2.1 hd ht (fun q => kt q G p e s m args below meth c H locs ls Z hG hF hH hl) (fun q => kf q G p e s m args below meth c H locs ls Z hG hF hH hl)
theorem ev_if_ge {x : Int32} {off : Int} {tgt : Nat} (hd : decode y.2.1 pc = .ok (.ifCond .ge off, 3)) (ht : (pc : Int) + off = (tgt : Int)) (kt : 0 ≤ x → Ev E y tgt L st X u Q) (kf : ¬ 0 ≤ x → Ev E y (pc + 3) L st X u Q) : Ev E y pc L (.int x :: st) X u Q := by
  intro G p e s m args below meth c H locs ls Z hG hF hH hl
  exact lv_if_ge hG.1 hG.2.1 hd ht (fun q => kt q G p e s m args below meth c H locs ls Z hG hF hH hl) (fun q => kf q G p e s m args below meth c H locs ls Z hG hF hH hl)
theorem ev_icmp_ge {x z : Int32} {off : Int} {tgt : Nat} (hd : decode y.2.1 pc = .ok (.if_icmp .ge off, 3)) (ht : (pc : Int) + off = (tgt : Int)) (kt : z ≤ x → Ev E y tgt L st X u Q) (kf : ¬ z ≤ x → Ev E y (pc + 3) L st X u Q) : Ev E y pc L (.int z :: .int x :: st) X u Q := by
  intro G p e s m args below meth c H locs ls Z hG hF hH hl
  exact lv_icmp_ge hG.1 hG.2.1 hd ht (fun q => kt q G p e s m args below meth c H locs ls Z hG hF hH hl) (fun q => kf q G p e s m args below meth c H locs ls Z hG hF hH hl)
theorem ev_if_gt {x : Int32} {off : Int} {tgt : Nat} (hd : decode y.2.1 pc = .ok (.ifCond .gt off, 3)) (ht : (pc : Int) + off = (tgt : Int)) (kt : 0 < x → Ev E y tgt L st X u Q) (kf : ¬ 0 < x → Ev E y (pc + 3) L st X u Q) : Ev E y pc L (.int x :: st) X u Q := by
  intro G p e s m args below meth c H locs ls Z hG hF hH hl
  exact lv_if_gt hG.1 hG.2.1 hd ht (fun q => kt q G p e s m args below meth c H locs ls Z hG hF hH hl) (fun q => kf q G p e s m args below meth c H locs ls Z hG hF hH hl)
theorem ev_icmp_gt {x z : Int32} {off : Int} {tgt : Nat} (hd : decode y.2.1 pc = .ok (.if_icmp .gt off, 3)) (ht : (pc : Int) + off = (tgt : Int)) (kt : z < x → Ev E y tgt L st X u Q) (kf : ¬ z < x → Ev E y (pc + 3) L st X u Q) : Ev E y pc L (.int z :: .int x :: st) X u Q := by
  intro G p e s m args below meth c H locs ls Z hG hF hH hl
  exact lv_icmp_gt hG.1 hG.2.1 hd ht (fun q => kt q G p e s m args below meth c H locs ls Z hG hF hH hl) (fun q => kf q G p e s m args below meth c H locs ls Z hG hF hH hl)
theorem ev_if_le {x : Int32} {off : Int} {tgt : Nat} (hd : decode y.2.1 pc = .ok (.ifCond .le off, 3)) (ht : (pc : Int) + off = (tgt : Int)) (kt : x ≤ 0 → Ev E y tgt L st X u Q) (kf : ¬ x ≤ 0 → Ev E y (pc + 3) L st X u Q) : Ev E y pc L (.int x :: st) X u Q := by
  intro G p e s m args below meth c H locs ls Z hG hF hH hl
  exact lv_if_le hG.1 hG.2.1 hd ht (fun q => kt q G p e s m args below meth c H locs ls Z hG hF hH hl) (fun q => kf q G p e s m args below meth c H locs ls Z hG hF hH hl)
theorem ev_icmp_le {x z : Int32} {off : Int} {tgt : Nat} (hd : decode y.2.1 pc = .ok (.if_icmp .le off, 3)) (ht : (pc : Int) + off = (tgt : Int)) (kt : x ≤ z → Ev E y tgt L st X u Q) (kf : ¬ x ≤ z → Ev E y (pc + 3) L st X u Q) : Ev E y pc L (.int z :: .int x :: st) X u Q := by
  intro G p e s m args below meth c H locs ls Z hG hF hH hl
  exact lv_icmp_le hG.1 hG.2.1 hd ht (fun q => kt q G p e s m args below meth c H locs ls Z hG hF hH hl) (fun q => kf q G p e s m args below meth c H locs ls Z hG hF hH hl)
theorem ev_ifnull {x : Nat} {off : Int} (hd : decode y.2.1 pc = .ok (.ifnull off, 3)) (k : Ev E y (pc + 3) L st X u Q) : Ev E y pc L (.ref x :: st) X u Q := by
  intro G p e s m args below meth c H locs ls Z hG hF hH hl
  exact lv_ifnull hG.1 hG.2.1 hd (k G p e s m args below meth c H locs ls Z hG hF hH hl)
theorem ev_ifnullN {off : Int} {tgt : Nat} (hd : decode y.2.1 pc = .ok (.ifnull off, 3)) (ht : (pc : Int) + off = (tgt : Int)) (k : Ev E y tgt L st X u Q) : Ev E y pc L (.null :: st) X u Q := by
  intro G p e s m args below meth c H locs ls Z hG hF hH hl
  exact lv_ifnullN hG.1 hG.2.1 hd ht (k G p e s m args below meth c H locs ls Z hG hF hH hl)
theorem ev_ifnonnull {x : Nat} {off : Int} {tgt : Nat} (hd : decode y.2.1 pc = .ok (.ifnonnull off, 3)) (ht : (pc : Int) + off = (tgt : Int)) (k : Ev E y tgt L st X u Q) : Ev E y pc L (.ref x :: st) X u Q := by
  intro G p e s m args below meth c H locs ls Z hG hF hH hl
  exact lv_ifnonnull hG.1 hG.2.1 hd ht (k G p e s m args below meth c H locs ls Z hG hF hH hl)
theorem ev_ifnonnullN {off : Int} (hd : decode y.2.1 pc = .ok (.ifnonnull off, 3)) (k : Ev E y (pc + 3) L st X u Q) : Ev E y pc L (.null :: st) X u Q := by
  intro G p e s m args below meth c H locs ls Z hG hF hH hl
  exact lv_ifnonnullN hG.1 hG.2.1 hd (k G p e s m args below meth c H locs ls Z hG hF hH hl)
theorem ev_tableOut {dflt lo hi : Int} {offs : Array Int} {len : Nat} {x : Int32} {tgt : Nat} (hd : decode y.2.1 pc = .ok (.tableswitch dflt lo hi offs, len)) (h : x.toInt < lo ∨ hi < x.toInt) (ht : (pc : Int) + dflt = (tgt : Int)) (k : Ev E y tgt L st X u Q) : Ev E y pc L (.int x :: st) X u Q := by
  intro G p e s m args below meth c H locs ls Z hG hF hH hl
  exact lv_tableOut hG.1 hG.2.1 hd h ht (k G p e s m args below meth c H locs ls Z hG hF hH hl)
theorem ev_tableIn {dflt lo hi : Int} {offs : Array Int} {len : Nat} {x : Int32} {off : Int} {tgt : Nat} (hd : decode y.2.1 pc = .ok (.tableswitch dflt lo hi offs, len)) (h1 : ¬ x.toInt < lo) (h2 : ¬ hi < x.toInt) (ho : offs[(x.toInt - lo).toNat]? = some off) (ht : (pc : Int) + off = (tgt : Int)) (k : Ev E y tgt L st X u Q) : Ev E y pc L (.int x :: st) X u Q := by
  intro G p e s m args below meth c H locs ls Z hG hF hH hl
  exact lv_tableIn hG.1 hG.2.1 hd h1 h2 ho ht (k G p e s m args below meth c H locs ls Z hG hF hH hl)
theorem ev_lookup {dflt : Int} {ps : Array (Int × Int)} {len : Nat} {x : Int32} {off : Int} {tgt : Nat} (hd : decode y.2.1 pc = .ok (.lookupswitch dflt ps, len)) (hp : (ps.toList.zip (ps.toList.drop 1)).all (fun (a, next) => a.1 < next.1) = true) (ho : Op.lookupswitch.offset ps.toList dflt x.toInt = off) (ht : (pc : Int) + off = (tgt : Int)) (k : Ev E y tgt L st X u Q) : Ev E y pc L (.int x :: st) X u Q := by
  intro G p e s m args below meth c H locs ls Z hG hF hH hl
  exact lv_lookup hG.1 hG.2.1 hd hp ho ht (k G p e s m args below meth c H locs ls Z hG hF hH hl)
theorem ev_ret (hu : u.1 ≤ y.2.2.2.2.cells ∧ u.2 ≤ y.2.2.2.2.slots) (hd : decode y.2.1 pc = .ok (.return_, 1)) (hr : y.2.2.2.1 = none) (hq : Q none X) : Ev E y pc L [] X u Q := by
  intro G p e s m args below meth c H locs ls Z hG hF hH hl
  exact hF none X H locs u.1 u.2 pc ls hq hH hu.1 hu.2 (Or.inl ⟨rfl, hd, hr⟩)
theorem ev_iret {v : Int32} {ty : FieldType} (hu : u.1 ≤ y.2.2.2.2.cells ∧ u.2 ≤ y.2.2.2.2.slots) (hd : decode y.2.1 pc = .ok (.ireturn, 1)) (hr : y.2.2.2.1 = some ty) (hn : narrow ty (.int v) = .int v) (hq : Q (some (.int v)) X) : Ev E y pc L [.int v] X u Q := by
  intro G p e s m args below meth c H locs ls Z hG hF hH hl
  exact hF (some (.int v)) X H locs u.1 u.2 pc ls hq hH hu.1 hu.2 (Or.inr (Or.inl ⟨v, ty, rfl, hd, hr, hn⟩))
theorem ev_lret {v : Int64} (hu : u.1 ≤ y.2.2.2.2.cells ∧ u.2 ≤ y.2.2.2.2.slots) (hd : decode y.2.1 pc = .ok (.lreturn, 1)) (hr : y.2.2.2.1 = some .long) (hq : Q (some (.long v)) X) : Ev E y pc L [.long v] X u Q := by
  intro G p e s m args below meth c H locs ls Z hG hF hH hl
  exact hF (some (.long v)) X H locs u.1 u.2 pc ls hq hH hu.1 hu.2 (Or.inr (Or.inr (Or.inl ⟨v, rfl, hd, hr⟩)))
theorem ev_aret {v : Value} {rt : FieldType} (hu : u.1 ≤ y.2.2.2.2.cells ∧ u.2 ≤ y.2.2.2.2.slots) (hd : decode y.2.1 pc = .ok (.areturn, 1)) (hr : y.2.2.2.1 = some rt) (ht : (∃ n, rt = .object n) ∨ ∃ t, rt = .array t) (hv : v = .null ∨ ∃ a, v = .ref a) (hq : Q (some v) X) : Ev E y pc L [v] X u Q := by
  intro G p e s m args below meth c H locs ls Z hG hF hH hl
  exact hF (some v) X H locs u.1 u.2 pc ls hq hH hu.1 hu.2 (Or.inr (Or.inr (Or.inr ⟨v, rt, rfl, hv, hd, hr, ht⟩)))
theorem ev_ldc {n : Nat} {v : Int32} (hd : decode y.2.1 pc = .ok (.ldc n, 2)) (hc : Cond.constant y.1.cls n v ∈ lw_g) (k : Ev E y (pc + 2) L (.int v :: st) X u Q) : Ev E y pc L st X u Q := by
  intro G p e s m args below meth c H locs ls Z hG hF hH hl
  exact lv_ldc hG.1 hG.2.1 hG.2.2.2.2.1 (hG.2.2.2.2.2.1 _ hc) hd (k G p e s m args below meth c H locs ls Z hG hF hH hl)
theorem ev_ldcw {n : Nat} {v : Int32} (hd : decode y.2.1 pc = .ok (.ldc_w n, 3)) (hc : Cond.constant y.1.cls n v ∈ lw_g) (k : Ev E y (pc + 3) L (.int v :: st) X u Q) : Ev E y pc L st X u Q := by
  intro G p e s m args below meth c H locs ls Z hG hF hH hl
  exact lv_ldcw hG.1 hG.2.1 hG.2.2.2.2.1 (hG.2.2.2.2.2.1 _ hc) hd (k G p e s m args below meth c H locs ls Z hG hF hH hl)
theorem ev_ldc2 {n : Nat} {v : Int64} (hd : decode y.2.1 pc = .ok (.ldc2_w n, 3)) (hc : Cond.constantLong y.1.cls n v ∈ lw_g) (k : Ev E y (pc + 3) L (.long v :: st) X u Q) : Ev E y pc L st X u Q := by
  intro G p e s m args below meth c H locs ls Z hG hF hH hl
  exact lv_ldc2 hG.1 hG.2.1 hG.2.2.2.2.1 (hG.2.2.2.2.2.1 _ hc) hd (k G p e s m args below meth c H locs ls Z hG hF hH hl)
end EVR
