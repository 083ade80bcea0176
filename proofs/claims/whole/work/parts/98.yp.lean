section TKN
variable {E : gp_E} {N : Nat → Nat} {S : gp_S} {X Y : gp_H}
def ikV (k i : Nat) : Int32 := if i = 0 then 1 else if i = 1 then (if k = 6 ∨ k = 2 then 1 else 0) else if i = 2 then (if k = 2 then 1 else 0) else if k = 1 then 1 else 0
theorem s_isOfKind {a k i : Nat} (ha : gp_at X a (k, 0)) (hg : k < 13 ∧ gp_gid k = 7) (hi : i ≤ 3) : Ev E m_ga_isOfKind 0 [(0, .ref a), (1, .int (nI i))] [] X (0, 0) (gp_q (some (.int (ikV k i))) X) := by
  refine ev_iload_n (x := nI i) (pc := 0) d_ga_isOfKind_0 rfl ?_
  rcases (show i = 0 ∨ i = 1 ∨ i = 2 ∨ i = 3 by omega) with e | e | e | e <;> subst e
  · refine ev_tableOut (pc := 1) (tgt := 43) d_ga_isOfKind_1 (by decide) (by decide) ?_
    refine ev_iconst (v := 1) (pc := 43) d_ga_isOfKind_43 kc_i_1 ?_
    exact ev_iret (pc := 44) ⟨Nat.le_of_ble_eq_true rfl, Nat.le_of_ble_eq_true rfl⟩ d_ga_isOfKind_44 rfl nb_1 ⟨rfl, rfl⟩
  · refine ev_tableIn (pc := 1) (off := 27) (tgt := 28) d_ga_isOfKind_1 (by decide) (by decide) (by decide) (by decide) ?_
    refine ev_aload_n (x := a) (pc := 28) d_ga_isOfKind_28 rfl ?_
    rcases gp_ring hg with e | e | e | e <;> subst e
    · refine ev_instNo (pc := 29) d_ga_isOfKind_29 ha lt13_1 c_ga_487 (show _ ∈ lw_c by decide) ?_
      exact ev_iret (pc := 32) ⟨Nat.le_of_ble_eq_true rfl, Nat.le_of_ble_eq_true rfl⟩ d_ga_isOfKind_32 rfl nb_0 ⟨rfl, rfl⟩
    · refine ev_instY (pc := 29) d_ga_isOfKind_29 ha lt13_2 c_ga_487 q_gr_ov ?_
      exact ev_iret (pc := 32) ⟨Nat.le_of_ble_eq_true rfl, Nat.le_of_ble_eq_true rfl⟩ d_ga_isOfKind_32 rfl nb_1 ⟨rfl, rfl⟩
    · refine ev_instS (pc := 29) d_ga_isOfKind_29 ha lt13_6 c_ga_487 ?_
      exact ev_iret (pc := 32) ⟨Nat.le_of_ble_eq_true rfl, Nat.le_of_ble_eq_true rfl⟩ d_ga_isOfKind_32 rfl nb_1 ⟨rfl, rfl⟩
    · refine ev_instNo (pc := 29) d_ga_isOfKind_29 ha lt13_7 c_ga_487 (show _ ∈ lw_c by decide) ?_
      exact ev_iret (pc := 32) ⟨Nat.le_of_ble_eq_true rfl, Nat.le_of_ble_eq_true rfl⟩ d_ga_isOfKind_32 rfl nb_0 ⟨rfl, rfl⟩
  · refine ev_tableIn (pc := 1) (off := 32) (tgt := 33) d_ga_isOfKind_1 (by decide) (by decide) (by decide) (by decide) ?_
    refine ev_aload_n (x := a) (pc := 33) d_ga_isOfKind_33 rfl ?_
    rcases gp_ring hg with e | e | e | e <;> subst e
    · refine ev_instNo (pc := 34) d_ga_isOfKind_34 ha lt13_1 c_ga_492 (show _ ∈ lw_c by decide) ?_
      exact ev_iret (pc := 37) ⟨Nat.le_of_ble_eq_true rfl, Nat.le_of_ble_eq_true rfl⟩ d_ga_isOfKind_37 rfl nb_0 ⟨rfl, rfl⟩
    · refine ev_instS (pc := 34) d_ga_isOfKind_34 ha lt13_2 c_ga_492 ?_
      exact ev_iret (pc := 37) ⟨Nat.le_of_ble_eq_true rfl, Nat.le_of_ble_eq_true rfl⟩ d_ga_isOfKind_37 rfl nb_1 ⟨rfl, rfl⟩
    · refine ev_instNo (pc := 34) d_ga_isOfKind_34 ha lt13_6 c_ga_492 (show _ ∈ lw_c by decide) ?_
      exact ev_iret (pc := 37) ⟨Nat.le_of_ble_eq_true rfl, Nat.le_of_ble_eq_true rfl⟩ d_ga_isOfKind_37 rfl nb_0 ⟨rfl, rfl⟩
    · refine ev_instNo (pc := 34) d_ga_isOfKind_34 ha lt13_7 c_ga_492 (show _ ∈ lw_c by decide) ?_
      exact ev_iret (pc := 37) ⟨Nat.le_of_ble_eq_true rfl, Nat.le_of_ble_eq_true rfl⟩ d_ga_isOfKind_37 rfl nb_0 ⟨rfl, rfl⟩
  · refine ev_tableIn (pc := 1) (off := 37) (tgt := 38) d_ga_isOfKind_1 (by decide) (by decide) (by decide) (by decide) ?_
    refine ev_aload_n (x := a) (pc := 38) d_ga_isOfKind_38 rfl ?_
    rcases gp_ring hg with e | e | e | e <;> subst e
    · refine ev_instS (pc := 39) d_ga_isOfKind_39 ha lt13_1 c_ga_495 ?_
      exact ev_iret (pc := 42) ⟨Nat.le_of_ble_eq_true rfl, Nat.le_of_ble_eq_true rfl⟩ d_ga_isOfKind_42 rfl nb_1 ⟨rfl, rfl⟩
    · refine ev_instNo (pc := 39) d_ga_isOfKind_39 ha lt13_2 c_ga_495 (show _ ∈ lw_c by decide) ?_
      exact ev_iret (pc := 42) ⟨Nat.le_of_ble_eq_true rfl, Nat.le_of_ble_eq_true rfl⟩ d_ga_isOfKind_42 rfl nb_0 ⟨rfl, rfl⟩
    · refine ev_instNo (pc := 39) d_ga_isOfKind_39 ha lt13_6 c_ga_495 (show _ ∈ lw_c by decide) ?_
      exact ev_iret (pc := 42) ⟨Nat.le_of_ble_eq_true rfl, Nat.le_of_ble_eq_true rfl⟩ d_ga_isOfKind_42 rfl nb_0 ⟨rfl, rfl⟩
    · refine ev_instNo (pc := 39) d_ga_isOfKind_39 ha lt13_7 c_ga_495 (show _ ∈ lw_c by decide) ?_
      exact ev_iret (pc := 42) ⟨Nat.le_of_ble_eq_true rfl, Nat.le_of_ble_eq_true rfl⟩ d_ga_isOfKind_42 rfl nb_0 ⟨rfl, rfl⟩
end TKN
theorem p_taken {E : gp_E} {N : Nat → Nat} {S : gp_S} {X : gp_H} (h : Inv N S X) (x1 x2 : Int32) : Ev E m_ga_taken 0 [(0, .ref 0), (1, .int x1), (2, .int x2)] [] X (0, 0) (gp_two E m_mo_taken [(0, .ref 55), (1, .int x1), (2, .int x2)]) := by
  have hL := h.lay
  have l2 := l12 hL
  have R := fun {Y : gp_H} (lY : Lay S Y) (gY : Rf X Y) {Q} => show _ from by
    have := b_mo_taken_0 (E := E) (x1 := x1) (x2 := x2) (Q := Q) lY
    rw [gY 55 13 rfl, h.mod.1.2, gY 65 _ rfl] at this
    exact this
  refine b_ga_taken_0 hL ⟨fun c2 => wh_model h (fun m hm e => ?_) (fun c1 => ⟨_, S, rfl, hL, R hL (rf_0 X) ⟨fun _ => ⟨fun z => bnf c1 z, fun _ => ⟨rfl, N, h⟩⟩, fun z => bne c2 z⟩⟩), fun c2 => ⟨_, S, rfl, hL, R hL (rf_0 X) ⟨fun z => bnf c2 z, fun _ => ⟨rfl, N, h⟩⟩⟩⟩
  subst e
  have c1 := iw_of hm (show S.2.1 ≤ 100000 by omega)
  obtain ⟨i, hi, rfl⟩ := iw_lt (n := 3) 3 (by decide) c2
  obtain ⟨r1, r2, r3⟩ := md_at hL hm
  have ek : gI X 65 m = kdF (S.2.2.2.2.1 m) := (h.mod.2 m hm).1.2.2.2.2.2
  rw [nI_c (k := m) (by omega), ek] at R
  have vm : vp_in (nI m) 12 := vin (by omega) (by omega)
  generalize S.2.2.2.2.1 m = k at r2 r3 ek R ⊢
  have key : (ikV k i = 0 → ¬ nI i = 0 ∧ ¬ kdF k = nI i ∧ (nI i = 1 → ¬ kdF k = 2)) ∧ (¬ ikV k i = 0 → nI i = 0 ∨ kdF k = nI i ∨ (nI i = 1 ∧ kdF k = 2)) := by
    rcases gp_ring r3 with e | e | e | e <;> subst e <;> rcases (show i = 0 ∨ i = 1 ∨ i = 2 ∨ i = 3 by omega) with e | e | e | e <;> subst e <;> decide
  have yes : ¬ ikV k i = 0 → gp_two E m_mo_taken [(0, .ref 55), (1, .int (nI m)), (2, .int (nI i))] (some (.int (kdF k))) X := fun z => by
    have q := key.2 z
    exact ⟨_, S, rfl, hL, R hL (rf_0 X) ⟨fun _ => ⟨fun _ => ⟨vm, fun _ => ⟨rfl, N, h⟩, fun y0 => ⟨fun _ => ⟨rfl, N, h⟩, fun y1 => ⟨fun y2 => absurd ((q.resolve_left y0).resolve_left y1).1 y2, fun y2 => ⟨fun y3 => absurd ((q.resolve_left y0).resolve_left y1).2 y3, fun _ => ⟨rfl, N, h⟩⟩⟩⟩⟩, fun z => bne c1 z⟩, fun z => bne c2 z⟩⟩
  refine ⟨_, s_isOfKind r2 r3 hi, fun r Y hq => ?_⟩
  obtain ⟨rfl, rfl⟩ := hq
  refine ⟨_, rfl, hL, r2, fun z => ⟨gp_q (some (.int (kdF k))) X, ⟨fun e => ?_, fun e => ?_, fun e => ?_, fun e => ?_⟩, fun r Y hq => ?_⟩, fun z => ?_⟩
  · subst e; exact b_fi_kindNumber_0 hL r2 r3 ⟨rfl, rfl⟩
  · subst e; exact b_gr_kindNumber_0 hL r2 r3 ⟨rfl, rfl⟩
  · subst e; exact b_ov_kindNumber_0 hL r2 r3 ⟨rfl, rfl⟩
  · subst e; exact b_ri_kindNumber_0 hL r2 r3 ⟨rfl, rfl⟩
  · obtain ⟨rfl, rfl⟩ := hq
    exact ⟨_, rfl, hL, r2, yes z⟩
  · obtain ⟨q1, q2, q3⟩ := key.1 z
    exact ⟨_, S, rfl, hL, R hL (rf_0 X) ⟨fun _ => ⟨fun _ => ⟨vm, fun y => absurd y q1, fun _ => ⟨fun y => absurd y q2, fun _ => ⟨fun _ => ⟨rfl, N, h⟩, fun y => ⟨fun _ => ⟨rfl, N, h⟩, fun y2 => absurd y2 (q3 y)⟩⟩⟩⟩, fun z => bne c1 z⟩, fun z => bne c2 z⟩⟩
