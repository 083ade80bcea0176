/-! reads whose value is told -/
section EVJ
variable {E : gp_E} {y : gp_M} {pc : Nat} {L : List (Nat × Value)} {st : List Value} {X : gp_H} {u : Nat × Nat} {Q : Option Value → gp_H → Prop}
theorem ev_getJ {idx g k a ci z : Nat} {v : Int32} (hd : decode y.2.1 pc = .ok (.getfield idx, 3)) (hf : gp_fl y.1.cls idx g k) (ha : gp_at X a (ci, z)) (hg : ci < 13 ∧ gp_gid ci = g) (hr : gp_rf g k = false) (hv : X.2.2.2.1 a k = v) (kk : Ev E y (pc + 3) L (.int v :: st) X u Q) : Ev E y pc L (.ref a :: st) X u Q := by
  subst hv
  exact ev_getI hd hf ha hg hr kk
theorem ev_ialdJ {a n : Nat} {i v : Int32} (hd : decode y.2.1 pc = .ok (.iaload, 1)) (ha : gp_at X a (13, n)) (hi : vp_in i n) (hv : X.2.2.2.1 a i.toNatClampNeg = v) (kk : Ev E y (pc + 1) L (.int v :: st) X u Q) : Ev E y pc L (.int i :: .ref a :: st) X u Q := by
  subst hv
  exact ev_iald hd ha hi kk
theorem ev_zaldJ {a n : Nat} {i v : Int32} (hd : decode y.2.1 pc = .ok (.baload, 1)) (ha : gp_at X a (14, n)) (hi : vp_in i n) (hv : X.2.2.2.1 a i.toNatClampNeg = v) (kk : Ev E y (pc + 1) L (.int v :: st) X u Q) : Ev E y pc L (.int i :: .ref a :: st) X u Q := by
  subst hv
  exact ev_zald hd ha hi kk
theorem ev_laldJ {a n : Nat} {i : Int32} {v : Int64} (hd : decode y.2.1 pc = .ok (.laload, 1)) (ha : gp_at X a (15, n)) (hi : vp_in i n) (hv : X.2.2.2.2 a i.toNatClampNeg = v) (kk : Ev E y (pc + 1) L (.long v :: st) X u Q) : Ev E y pc L (.int i :: .ref a :: st) X u Q := by
  subst hv
  exact ev_lald hd ha hi kk
end EVJ
