section SH
variable {E : gp_E} {N : Nat → Nat} {S : gp_S} {X Y : gp_H}
def shN (N : Nat → Nat) (S : gp_S) (X : gp_H) (jt o : Int32) (n : Nat) : Int32 := sm (fun i => ndS N S X (gI X 85 (Int32.toNatClampNeg (gI X 87 i))) jt (N 5) o) n
def shO (X : gp_H) (jt : Int32) (i o : Nat) : Int32 := if gI X 82 o = jt ∧ iw (gI X 84 o) (gI X 55 44 + 1) (gI X 55 44 + nI i) = true then gI X 83 o else 0
def shB (N : Nat → Nat) (S : gp_S) (X : gp_H) (jt o : Int32) (i : Nat) : Bool := !decide (shN N S X jt o (i + 1) ≤ gI X 81 (Int32.toNatClampNeg jt) + sm (shO X jt i) (N 6))
def shV (f : Nat → Bool) (w : Int32) : Nat → Nat → Int32
  | 0, _ => -1
  | d + 1, i => if f i = true then w + nI i else shV f w d (i + 1)
theorem s_ga_orderedTill (h : Inv N S X) (jt : Int32) (i : Nat) : Ev E m_ga_orderedTill 0 [(0, .ref 0), (1, .int jt), (2, .int (gI X 55 44 + nI i))] [] X (0, 0) (gp_q (some (.int (sm (shO X jt i) (N 6)))) X) := by
  obtain ⟨⟨k1, k2, k3⟩, q1, q2⟩ := h.ord
  obtain ⟨w1, w2, w3⟩ := h.wek
  have hX := h.lay
  refine b_ga_orderedTill_0 hX ?_
  refine dn (P := fun k => Ev E m_ga_orderedTill 5 [(0, .ref 0), (1, .int jt), (2, .int (gI X 55 44 + nI i)), (3, .int (sm (shO X jt i) k)), (4, .int (nI k))] [] X (0, 0) (gp_q (some (.int (sm (shO X jt i) (N 6)))) X)) (n := N 6) ?_ ?_
  · exact b_ga_orderedTill_5 hX ⟨fun _ => ⟨rfl, rfl⟩, fun z => absurd (by rw [k1]; exact Int32.le_refl _) z⟩
  · intro k hk ih
    obtain ⟨a, b, c, -, -, -, -, -, hc, ec⟩ := q2 k hk
    have vi : vp_in (nI k) 30 := vin (by omega) (by omega)
    have cl : Int32.toNatClampNeg (nI k) = k := nI_c (by omega)
    have f44 : ∀ t : Int32, (¬ t = 0 ↔ iw (gI X 84 k) (gI X 55 44 + 1) (gI X 55 44 + nI i) = true) → Ev E m_ga_orderedTill 44 [(0, .ref 0), (1, .int jt), (2, .int (gI X 55 44 + nI i)), (3, .int (sm (shO X jt i) k)), (4, .int (nI k))] [.int t] X (0, 0) (gp_q (some (.int (sm (shO X jt i) (N 6)))) X) := by
      intro t ht
      refine b_ga_orderedTill_44 hX ⟨fun z => ?_, fun z => ⟨vi, ?_⟩⟩
      · rw [sm_0 (if_neg (fun y => (ht.mpr y.2) z))] at ih; rw [nI_s]; exact ih
      · rw [cl, (q1 k).1, (q1 k).2.1]
        refine ⟨fun c => ?_, fun c => ?_⟩
        · rw [sm_0 (if_neg (fun y => c y.1))] at ih; rw [nI_s]; exact ih
        · rw [sm_1 (if_pos ⟨c, ht.mp z⟩)] at ih; rw [nI_s]; exact ih
    refine b_ga_orderedTill_5 hX ⟨fun z => absurd z (by rw [k1]; exact nI_nge hk (by omega)), fun _ => ⟨vi, ?_⟩⟩
    rw [cl, (q1 k).2.2, w1, ← w2]
    have lw : gI X 55 44 + 1 ≤ gI X 84 k ↔ ¬ gI X 84 k ≤ gI X 55 44 := by
      rw [w2, ec, nI_s, nI_leI (by omega) (by omega), nI_leI (by omega) (by omega)]; omega
    refine ⟨fun c => b_ga_orderedTill_43 hX (f44 0 ⟨fun y => absurd rfl y, fun y => absurd c (lw.mp (iw_ab y).1)⟩), fun c => ⟨fun c2 => b_ga_orderedTill_43 hX (f44 0 ⟨fun y => absurd rfl y, fun y => absurd (iw_ab y).2 (Int32.not_le.mpr c2)⟩), fun c2 => f44 1 ⟨fun _ => ?_, fun _ => by decide⟩⟩⟩
    unfold iw
    rw [decide_eq_true (lw.mpr c), decide_eq_true (Int32.not_lt.mp c2)]; rfl
theorem sh_pl (h : Inv N S X) {i : Nat} (hi : i < N 8) : ∃ s, s < N 7 ∧ N 7 ≤ 7 ∧ gI X 87 i = nI s ∧ gI X 25 i = nI s ∧ Int32.toNatClampNeg (gI X 87 i) = s := by
  obtain ⟨a, s, b, c, -⟩ := h.pln.2.1 i hi
  have := h.sec.1.2.2
  exact ⟨s, b, this, c, a.trans c, by rw [c, nI_c (by omega)]⟩
theorem sh_c (h : Inv N S X) {jt : Nat} (hj : jt < 5) {x2 o : Int32} (ho1 : x2 = 1 → o = 1) (ho0 : ¬ x2 = 1 → o = 0) : ∀ (d i : Nat), d + i = N 8 → Ev E m_ga_shortOf 22 [(0, .ref 0), (1, .int (nI jt)), (2, .int x2), (3, .int (shN N S X (nI jt) o i)), (4, .int (nI i))] [] X (0, 0) (gp_q (some (.int (shV (shB N S X (nI jt) o) (gI X 55 44) d i))) X) := by
  have hX := h.lay
  obtain ⟨⟨k1, k2, k3⟩, -⟩ := h.pln
  obtain ⟨w1, w2, w3⟩ := h.wek
  intro d
  induction d with
  | zero =>
    intro i hi
    obtain rfl : i = N 8 := by omega
    exact b_ga_shortOf_22 hX ⟨fun _ => ⟨rfl, rfl⟩, fun z => absurd (by rw [k1]; exact Int32.le_refl _) z⟩
  | succ d ih =>
    intro i hi
    have hl : i < N 8 := by omega
    obtain ⟨s, hs, s7, e1, e2, e3⟩ := sh_pl h hl
    have next : Ev E m_ga_shortOf 69 [(0, .ref 0), (1, .int (nI jt)), (2, .int x2), (3, .int (shN N S X (nI jt) o i)), (4, .int (nI i))] [.int o, .int (gI X 0 9), .int (nI jt), .int (gI X 24 s), .ref 0, .int (shN N S X (nI jt) o i)] X (0, 0) (gp_q (some (.int (shV (shB N S X (nI jt) o) (gI X 55 44) (d + 1) i))) X) := by
      refine b_ga_shortOf_69 hX ?_
      rw [h.sur.1.1, h.sec.2.1 s]
      refine wh_i (s_ga_needOf h _ _ _ (k := N 5) (by have := h.sur.1.2.2; omega)) hX ?_
      rw [w1, ← w2, nI_c (k := jt) (by omega), (h.stk jt).1]
      refine ⟨vin hj (by omega), wh_i (s_ga_orderedTill h _ i) hX ?_⟩
      have en : shN N S X (nI jt) o i + ndS N S X (gI X 85 s) (nI jt) (N 5) o = shN N S X (nI jt) o (i + 1) := by
        show _ = sm _ i + ndS N S X (gI X 85 (Int32.toNatClampNeg (gI X 87 i))) (nI jt) (N 5) o
        rw [e3]; rfl
      rw [en]
      have eb : shB N S X (nI jt) o i = !decide (shN N S X (nI jt) o (i + 1) ≤ gI X 81 jt + sm (shO X (nI jt) i) (N 6)) := by unfold shB; rw [nI_c (k := jt) (by omega)]
      refine ⟨fun c => ?_, fun c => ⟨?_, rfl⟩⟩
      · have : shV (shB N S X (nI jt) o) (gI X 55 44) (d + 1) i = shV (shB N S X (nI jt) o) (gI X 55 44) d (i + 1) := if_neg (by rw [eb, decide_eq_true c]; decide)
        rw [this, nI_s]
        exact ih (i + 1) (by omega)
      · have : shV (shB N S X (nI jt) o) (gI X 55 44) (d + 1) i = gI X 55 44 + nI i := if_pos (by rw [eb, decide_eq_false c]; rfl)
        rw [this, w2, w1]
    refine b_ga_shortOf_22 hX ⟨fun z => absurd z (by rw [k1]; exact nI_nge hl (by omega)), fun _ => ⟨vin (by omega) (by omega), ?_⟩⟩
    rw [nI_c (k := i) (by omega), e2, nI_c (k := s) (by omega)]
    refine ⟨vin (by omega) (by omega), fun c => ?_, fun c => ?_⟩
    · rw [ho0 c] at next ⊢; exact next
    · rw [ho1 c] at next ⊢; exact next
theorem sh_r (h : Inv N S X) {jt : Nat} (hj : jt < 5) {x2 o : Int32} (ho1 : x2 = 1 → o = 1) (ho0 : ¬ x2 = 1 → o = 0) : ∀ (d i : Nat), d + i = N 8 → Ev E m_mo_shortOf 26 [(0, .ref 55), (1, .int (nI jt)), (2, .int x2), (3, .int (shN N S X (nI jt) o i)), (4, .int (nI i))] [] X (0, 0) (gp_q (some (.int (shV (shB N S X (nI jt) o) (gI X 55 44) d i))) X) := by
  have hX := h.lay
  obtain ⟨⟨k1, k2, k3⟩, -⟩ := h.pln
  obtain ⟨⟨o1, o2, o3⟩, -⟩ := h.ord
  intro d
  induction d with
  | zero =>
    intro i hi
    obtain rfl : i = N 8 := by omega
    exact b_mo_shortOf_26 hX ⟨fun _ => ⟨rfl, rfl⟩, fun z => absurd (by rw [k2]; exact Int32.le_refl _) z⟩
  | succ d ih =>
    intro i hi
    have hl : i < N 8 := by omega
    obtain ⟨s, hs, s7, e1, e2, e3⟩ := sh_pl h hl
    have eb : shB N S X (nI jt) o i = !decide (shN N S X (nI jt) o (i + 1) ≤ gI X 81 jt + sm (shO X (nI jt) i) (N 6)) := by unfold shB; rw [nI_c (k := jt) (by omega)]
    have loop : Ev E m_mo_shortOf 75 [(0, .ref 55), (1, .int (nI jt)), (2, .int x2), (3, .int (shN N S X (nI jt) o (i + 1))), (4, .int (nI i)), (5, .int (gI X 81 jt)), (6, .int 0)] [] X (0, 0) (gp_q (some (.int (shV (shB N S X (nI jt) o) (gI X 55 44) (d + 1) i))) X) := by
      have key := dn (P := fun k => Ev E m_mo_shortOf 75 [(0, .ref 55), (1, .int (nI jt)), (2, .int x2), (3, .int (shN N S X (nI jt) o (i + 1))), (4, .int (nI i)), (5, .int (gI X 81 jt + sm (shO X (nI jt) i) k)), (6, .int (nI k))] [] X (0, 0) (gp_q (some (.int (shV (shB N S X (nI jt) o) (gI X 55 44) (d + 1) i))) X)) (n := N 6) (by
        refine b_mo_shortOf_75 hX ⟨fun _ => ⟨fun c => ?_, fun c => ⟨?_, rfl⟩⟩, fun z => absurd (by rw [o2]; exact Int32.le_refl _) z⟩
        · have : shV (shB N S X (nI jt) o) (gI X 55 44) (d + 1) i = shV (shB N S X (nI jt) o) (gI X 55 44) d (i + 1) := if_neg (by rw [eb, decide_eq_true c]; decide)
          rw [this, nI_s]
          exact ih (i + 1) (by omega)
        · have : shV (shB N S X (nI jt) o) (gI X 55 44) (d + 1) i = gI X 55 44 + nI i := if_pos (by rw [eb, decide_eq_false c]; rfl)
          rw [this]) (fun k hk ihk => by
        refine b_mo_shortOf_75 hX ⟨fun z => absurd z (by rw [o2]; exact nI_nge hk (by omega)), fun _ => ⟨vin (by omega) (by omega), ?_⟩⟩
        rw [nI_c (k := k) (by omega)]
        refine ⟨fun c => b_mo_shortOf_133 hX ?_, fun c => ⟨fun c2 => b_mo_shortOf_133 hX ?_, fun c2 => ?_⟩⟩
        · rw [sm_0 (if_neg (fun y => c y.1))] at ihk; rw [nI_s, Int32.add_zero]; exact ihk
        · rw [sm_0 (if_neg (fun y => bnf c2 y.2))] at ihk; rw [nI_s, Int32.add_zero]; exact ihk
        · rw [sm_1 (if_pos ⟨c, c2⟩), ← Int32.add_assoc] at ihk; rw [nI_s]; exact ihk)
      have e0 : gI X 81 jt + sm (shO X (nI jt) i) 0 = gI X 81 jt := Int32.add_zero _
      simp only [e0] at key
      exact key
    have next : Ev E m_mo_shortOf 59 [(0, .ref 55), (1, .int (nI jt)), (2, .int x2), (3, .int (shN N S X (nI jt) o i)), (4, .int (nI i))] [.int o, .int (gI X 55 29), .int (nI jt), .int (nI s), .ref 55, .int (shN N S X (nI jt) o i)] X (0, 0) (gp_q (some (.int (shV (shB N S X (nI jt) o) (gI X 55 44) (d + 1) i))) X) := by
      refine b_mo_shortOf_59 hX ?_
      rw [h.sur.1.2.1, nI_c (k := jt) (by omega)]
      refine wh_i (s_mo_needOf h _ _ hs (k := N 5) (by have := h.sur.1.2.2; omega)) hX ⟨vin hj (by omega), ?_⟩
      have en : shN N S X (nI jt) o i + ndS N S X (gI X 85 s) (nI jt) (N 5) o = shN N S X (nI jt) o (i + 1) := by
        show _ = sm _ i + ndS N S X (gI X 85 (Int32.toNatClampNeg (gI X 87 i))) (nI jt) (N 5) o
        rw [e3]; rfl
      rw [en]
      exact loop
    refine b_mo_shortOf_26 hX ⟨fun z => absurd z (by rw [k2]; exact nI_nge hl (by omega)), fun _ => ⟨vin (by omega) (by omega), ?_⟩⟩
    rw [nI_c (k := i) (by omega), e1]
    refine ⟨fun c => ?_, fun c => ?_⟩
    · rw [ho0 c] at next ⊢; exact next
    · rw [ho1 c] at next ⊢; exact next
end SH
theorem p_shortOf {E : gp_E} {N : Nat → Nat} {S : gp_S} {X : gp_H} (h : Inv N S X) (x1 x2 : Int32) : Ev E m_ga_shortOf 0 [(0, .ref 0), (1, .int x1), (2, .int x2)] [] X (0, 0) (gp_two E m_mo_shortOf [(0, .ref 55), (1, .int x1), (2, .int x2)]) := by
  have hL := h.lay
  have R := fun {Q} => b_mo_shortOf_0 (E := E) (x1 := x1) (x2 := x2) (Q := Q) hL
  refine b_ga_shortOf_0 hL ?_
  rw [ifl_iw]
  refine ⟨fun c1 => ⟨_, S, rfl, hL, R ⟨fun _ => ⟨rfl, N, h⟩, fun z => bnf c1 z⟩⟩, fun c1 => ⟨fun c2 => ?_, fun c2 => ⟨_, S, rfl, hL, R ⟨fun z => bne c1 z, fun _ => ⟨fun z => bnf c2 z, fun _ => ⟨rfl, N, h⟩⟩⟩⟩⟩⟩
  obtain ⟨j, hj, rfl⟩ := iw_lt (n := 4) 4 (by decide) c1
  by_cases z : x2 = 1
  · exact ev_q (sh_c h (jt := j) (by omega) (o := 1) (fun _ => rfl) (fun y => absurd z y) (N 8) 0 rfl) ⟨_, S, rfl, hL, R ⟨fun y => bne c1 y, fun _ => ⟨fun _ => ev_q (sh_r h (jt := j) (by omega) (o := 1) (fun _ => rfl) (fun y => absurd z y) (N 8) 0 rfl) ⟨rfl, N, h⟩, fun y => bne c2 y⟩⟩⟩
  · exact ev_q (sh_c h (jt := j) (by omega) (o := 0) (fun y => absurd y z) (fun _ => rfl) (N 8) 0 rfl) ⟨_, S, rfl, hL, R ⟨fun y => bne c1 y, fun _ => ⟨fun _ => ev_q (sh_r h (jt := j) (by omega) (o := 0) (fun y => absurd y z) (fun _ => rfl) (N 8) 0 rfl) ⟨rfl, N, h⟩, fun y => bne c2 y⟩⟩⟩
section BL
variable {E : gp_E} {N : Nat → Nat} {S : gp_S} {X Y : gp_H}
def blV (X : gp_H) (c w : Int32) : Nat → Int32
  | 0 => 0
  | n + 1 => if gI X 101 n = 0 ∧ gI X 97 n = c ∧ ¬ w < gI X 98 n then gI X 100 n else blV X c w n
theorem s_la_payFor (h : Inv N S X) (c w : Int32) : Ev E m_la_payFor 0 [(0, .ref 40), (1, .int c), (2, .int w)] [] X (0, 0) (gp_q (some (.int (blV X c w (N 12)))) X) := by
  obtain ⟨⟨k1, k2, k3⟩, q1, -⟩ := h.law
  have hX := h.lay
  have loop : ∀ n, n ≤ N 12 → blV X c w n = blV X c w (N 12) → Ev E m_la_payFor 7 [(0, .ref 40), (1, .int c), (2, .int w), (3, .int (nI n - 1))] [] X (0, 0) (gp_q (some (.int (blV X c w (N 12)))) X) := by
    intro n
    induction n with
    | zero =>
      intro _ e
      exact b_la_payFor_7 hX ⟨fun _ => ⟨by rw [← e]; rfl, rfl⟩, fun z => absurd (by decide) z⟩
    | succ n ih =>
      intro hn e
      obtain ⟨e1, e2, e3⟩ := q1 n (by omega)
      rw [nI_pred]
      refine b_la_payFor_7 hX ⟨fun z => absurd z (nI_pos (by omega)), fun _ => ⟨vin (by omega) (by omega), ?_⟩⟩
      rw [nI_c (by omega), ← Int32.sub_eq_add_neg, e1, e2]
      have no : ¬ (gI X 101 n = 0 ∧ gI X 97 n = c ∧ ¬ w < gI X 98 n) → blV X c w n = blV X c w (N 12) := fun z => by rw [← e]; exact (if_neg z).symm
      rcases e3 with ⟨a1, a2, a3⟩ | ⟨a1, a2, a3⟩
      · rw [a1]
        refine ⟨fun _ => ih (by omega) (no (fun z => by rw [a2] at z; exact absurd z.1 (by decide))), fun z => absurd rfl z⟩
      · rw [a1, a3]
        refine ⟨fun z => absurd z (by decide), fun _ => ⟨fun z => ih (by omega) (no (fun y => z y.2.1)), fun z => ⟨fun z2 => ih (by omega) (no (fun y => y.2.2 z2)), fun z2 => ⟨?_, rfl⟩⟩⟩⟩
        rw [← e]
        exact congrArg (fun z => some (Value.int z)) (if_pos ⟨a2, z, z2⟩)
  refine b_la_payFor_0 hX ?_
  rw [k1]
  exact loop (N 12) (Nat.le_refl _) rfl
theorem s_mo_bill14 (h : Inv N S X) {j : Nat} (hj : j < S.1) : Ev E m_mo_bill 14 [(0, .ref 55), (1, .int (nI j)), (2, .int 0), (3, .int 0)] [] X (0, 0) (gp_q (some (.int (if gI X 74 j = 1 then blV X (gI X 69 (S.2.2.2.2.2 j)) (gI X 76 j) (N 12) else 0))) X) := by
  obtain ⟨⟨k1, k2, k3⟩, q1, -⟩ := h.law
  have hX := h.lay
  have l := l40 hX
  have l2 := l12 hX
  have hm := (hX.2.2.2.2.1 j hj).2.2.2.2
  have e73 := (h.hom.2 j hj).1.2.2.2.1
  by_cases c : gI X 74 j = 1
  · rw [if_pos c]
    refine dn (P := fun k => Ev E m_mo_bill 14 [(0, .ref 55), (1, .int (nI j)), (2, .int (blV X (gI X 69 (S.2.2.2.2.2 j)) (gI X 76 j) k)), (3, .int (nI k))] [] X (0, 0) (gp_q (some (.int (blV X (gI X 69 (S.2.2.2.2.2 j)) (gI X 76 j) (N 12)))) X)) (n := N 12) ?_ ?_
    · exact b_mo_bill_14 hX ⟨fun _ => ⟨rfl, rfl⟩, fun z => absurd (by rw [k2]; exact Int32.le_refl _) z⟩
    · intro k hk ih
      refine b_mo_bill_14 hX ⟨fun z => absurd z (by rw [k2]; exact nI_nge hk (by omega)), fun _ => ⟨vin (by omega) (by omega), ?_⟩⟩
      rw [nI_c (k := j) (by omega), nI_c (k := k) (by omega), e73, nI_c (k := S.2.2.2.2.2 j) (by omega), nI_s]
      have no : ¬ (gI X 101 k = 0 ∧ gI X 97 k = gI X 69 (S.2.2.2.2.2 j) ∧ ¬ gI X 76 j < gI X 98 k) → blV X (gI X 69 (S.2.2.2.2.2 j)) (gI X 76 j) (k + 1) = blV X (gI X 69 (S.2.2.2.2.2 j)) (gI X 76 j) k := fun z => if_neg z
      refine ⟨fun z => absurd c z, fun _ => ⟨vin (by omega) (by omega), fun z => ?_, fun z => ⟨vin (by omega) (by omega), fun z2 => ?_, fun z2 => ⟨fun z3 => ?_, fun z3 => ?_⟩⟩⟩⟩
      · rw [no (fun y => z y.1)] at ih; exact ih
      · rw [no (fun y => z2 y.2.1)] at ih; exact ih
      · rw [no (fun y => y.2.2 z3)] at ih; exact ih
      · have : blV X (gI X 69 (S.2.2.2.2.2 j)) (gI X 76 j) (k + 1) = gI X 100 k := if_pos ⟨z, z2, z3⟩
        rw [this] at ih; exact ih
  · rw [if_neg c]
    refine b_mo_bill_14 hX ⟨fun _ => ⟨rfl, rfl⟩, fun _ => ⟨vin (by omega) (by omega), ?_⟩⟩
    rw [nI_c (k := j) (by omega)]
    exact ⟨fun _ => ⟨rfl, rfl⟩, fun z => absurd z c⟩
end BL
theorem p_bill {E : gp_E} {N : Nat → Nat} {S : gp_S} {X : gp_H} (h : Inv N S X) (x1 : Int32) : Ev E m_ga_bill 0 [(0, .ref 0), (1, .int x1)] [] X (0, 0) (gp_two E m_mo_bill [(0, .ref 55), (1, .int x1)]) := by
  have hL := h.lay
  have k2 := h.hom.1.2
  have l := l40 hL
  have R := fun {Q} => b_mo_bill_0 (E := E) (x1 := x1) (Q := Q) hL
  rw [k2] at R
  refine b_ga_bill_0 hL (wh_home h (fun j hj e => ?_) (fun c1 => ⟨_, S, rfl, hL, R ⟨fun z => bnf c1 z, fun _ => ⟨rfl, N, h⟩⟩⟩))
  subst e
  have c1 := iw_of hj (show S.1 ≤ 100000 by omega)
  obtain ⟨⟨a0, a1, a2, a3, a4, a5, a6, a7, a8⟩, -⟩ := h.hom.2 j hj
  have lh := hL.2.2.2.2.1 j hj
  have hm := lh.2.2.2.2
  obtain ⟨r1, r2, r3⟩ := md_at hL hm
  obtain ⟨⟨m1, m2, m3, m4, m5, m6⟩, -⟩ := h.mod.2 _ hm
  rw [a4, a6]
  refine ⟨fun c => ⟨_, _, lh.2.2.2.1, r2, r3, ?_⟩, fun c => ⟨_, S, rfl, hL, R ⟨fun _ => ev_q (s_mo_bill14 h hj) ⟨by rw [if_neg c], N, h⟩, fun z => bne c1 z⟩⟩⟩
  rw [m5]
  exact wh_i (s_la_payFor h _ _) hL ⟨lh.2.1, _, S, rfl, hL, R ⟨fun _ => ev_q (s_mo_bill14 h hj) ⟨by rw [if_pos c], N, h⟩, fun z => bne c1 z⟩⟩
theorem sv_two {E : gp_E} {N : Nat → Nat} {S : gp_S} {X : gp_H} (h : Inv N S X) {j : Nat} (hj : j < S.1) (x2 : Int32) : Ev E m_ga_addSurvey 0 [(0, .ref 0), (1, .ref (S.2.2.1 j)), (2, .int x2)] [] X (0, 0) (fun r Y => ∃ v : Int32, r = some (.int v) ∧ Lay S Y ∧ Rf X Y ∧ gp_at Y (S.2.2.1 j) (3, 0) ∧ Ev E m_mo_survey 0 [(0, .ref 55), (1, .int (nI j)), (2, .int x2)] [] Y (0, 0) (fun r2 Z => r2 = some (.int v) ∧ ∃ N, Inv N S Z)) := by
  have hL := h.lay
  have l := l40 hL
  have l2 := l12 hL
  have c1 := iw_of hj (show S.1 ≤ 100000 by omega)
  obtain ⟨⟨k1, k2, k3⟩, q1, q2⟩ := h.sur
  obtain ⟨⟨a0, a1, a2, a3, a4, a5, a6, a7, a8⟩, a9, a10, a11, a12⟩ := h.hom.2 j hj
  have hb := hm_big hL hj
  have ok := set_ok (n := S.2.1) (x := x2) (by omega)
  have R := fun {Y : gp_H} (lY : Lay S Y) (gY : Rf X Y) {Q} => show _ from by
    have := b_mo_survey_0 (E := E) (x1 := nI j) (x2 := x2) (Q := Q) lY
    rw [gY 55 19 rfl, gY 55 13 rfl, gY 55 29 rfl, h.hom.1.2, h.mod.1.2, k2, nI_c (k := N 5) (by omega), nI_s] at this
    exact this
  have bad : ¬ (¬ x2 = 0 ∧ low S.2.1 x2) → ∃ v : Int32, some (Value.int (-2)) = some (.int v) ∧ Lay S X ∧ Rf X X ∧ gp_at X (S.2.2.1 j) (3, 0) ∧ Ev E m_mo_survey 0 [(0, .ref 55), (1, .int (nI j)), (2, .int x2)] [] X (0, 0) (fun r2 Z => r2 = some (.int v) ∧ ∃ N, Inv N S Z) := fun c => ⟨_, rfl, hL, rf_0 X, (hm_at hL hj).2, R hL (rf_0 X) ⟨fun _ => ⟨fun _ => ⟨rfl, N, h⟩, fun z => ⟨fun z2 => absurd (ok.mpr ⟨z, z2⟩) c, fun _ => ⟨rfl, N, h⟩⟩⟩, fun z => bne c1 z⟩⟩
  refine b_ga_addSurvey_0 hL (hm_at hL hj).2 ?_
  rw [h.mod.1.1, low_in (show S.2.1 < 21 by omega), k1, nI_s, nI_c (k := N 5 + 1) (by omega)]
  refine ⟨fun c => bad (fun q => q.1 c), fun c => ⟨fun c2 => ⟨fun c3 => ?_, fun c3 => ?_⟩, fun c2 => bad (fun q => c2 q.2)⟩⟩
  · obtain ⟨o1, o2⟩ := ok.mp ⟨c, c2⟩
    have hl : N 5 < 300 := (nI_lt_lit (k := 300) rfl (by omega) (by omega)).mp c3
    have er : gI (gp_sI (gp_sI X 0 9 (nI (N 5 + 1))) 17 (N 5 + 1) x2) (S.2.2.1 j) 9 = gI X (S.2.2.1 j) 9 := by
      simp only [gI_sI]
      rw [if_neg (by omega), if_neg (by omega)]
    rw [er]
    have rd : ∀ a k, gI (gp_sI (gp_sI (gp_sI (gp_sI X 0 9 (nI (N 5 + 1))) 17 (N 5 + 1) x2) 18 (N 5 + 1) (gI X (S.2.2.1 j) 9)) (S.2.2.1 j) 9 (nI (N 5 + 1))) a k = if a = (S.2.2.1 j) ∧ k = 9 then nI (N 5 + 1) else if a = 18 ∧ k = N 5 + 1 then gI X (S.2.2.1 j) 9 else if a = 17 ∧ k = N 5 + 1 then x2 else if a = 0 ∧ k = 9 then nI (N 5 + 1) else gI X a k := fun a k => rfl
    have lY : Lay S (gp_sI (gp_sI (gp_sI (gp_sI X 0 9 (nI (N 5 + 1))) 17 (N 5 + 1) x2) 18 (N 5 + 1) (gI X (S.2.2.1 j) 9)) (S.2.2.1 j) 9 (nI (N 5 + 1))) := ly_sI (ly_sI (ly_sI (ly_sI hL)))
    have gY : Rf X (gp_sI (gp_sI (gp_sI (gp_sI X 0 9 (nI (N 5 + 1))) 17 (N 5 + 1) x2) 18 (N 5 + 1) (gI X (S.2.2.1 j) 9)) (S.2.2.1 j) 9 (nI (N 5 + 1))) := fun a k ha => by
      have ha := isR_lt ha
      rw [rd, if_neg (by omega), if_neg (by omega), if_neg (by omega), if_neg (by omega)]
    refine ⟨vin (by omega) (by omega), nI (N 5 + 1), ?_, lY, gY, (hm_at hL hj).2, R lY gY ⟨fun _ => ⟨fun z => absurd z o1, fun _ => ⟨fun _ => ⟨fun _ => ⟨vin hl (by omega), rfl, ?_⟩, fun z => absurd ((nI_eq_lit (k := 300) rfl (by omega) (by omega)).mp z) (by omega)⟩, fun z => absurd o2 z⟩⟩, fun z => bne c1 z⟩⟩
    · rw [rd, if_neg (by omega), if_neg (by omega), if_neg (by omega), if_pos ⟨rfl, rfl⟩]
    have rz : ∀ a k, gI (gp_sI (gp_sI (gp_sI (gp_sI (gp_sI (gp_sI (gp_sI X 0 9 (nI (N 5 + 1))) 17 (N 5 + 1) x2) 18 (N 5 + 1) (gI X (S.2.2.1 j) 9)) (S.2.2.1 j) 9 (nI (N 5 + 1))) 79 (N 5) (nI j)) 80 (N 5) x2) 55 29 (nI (N 5 + 1))) a k = if a = 55 ∧ k = 29 then nI (N 5 + 1) else if a = 80 ∧ k = N 5 then x2 else if a = 79 ∧ k = N 5 then nI j else gI (gp_sI (gp_sI (gp_sI (gp_sI X 0 9 (nI (N 5 + 1))) 17 (N 5 + 1) x2) 18 (N 5 + 1) (gI X (S.2.2.1 j) 9)) (S.2.2.1 j) 9 (nI (N 5 + 1))) a k := fun a k => rfl
    refine iv_y [(0, 9), (17, 0), (18, 0), (79, 0), (80, 0), (55, 29)] true (fun i => if i = 5 then N 5 + 1 else N i) h (ly_sI (ly_sI (ly_sI lY))) (fun a k ho hh => ?_) (fun hx => ⟨hx.1, (hx.2.1 rfl), (hx.2.2.1 rfl), (hx.2.2.2.1 rfl), (hx.2.2.2.2.1 rfl), ?_, (hx.2.2.2.2.2.2.1 rfl), ?_, (hx.2.2.2.2.2.2.2.2.1 rfl), (hx.2.2.2.2.2.2.2.2.2.1 rfl), (hx.2.2.2.2.2.2.2.2.2.2.1 rfl), (hx.2.2.2.2.2.2.2.2.2.2.2.1 rfl), (hx.2.2.2.2.2.2.2.2.2.2.2.2.1 rfl), (hx.2.2.2.2.2.2.2.2.2.2.2.2.2.1 rfl), (hx.2.2.2.2.2.2.2.2.2.2.2.2.2.2.1 rfl), (hx.2.2.2.2.2.2.2.2.2.2.2.2.2.2.2.1 rfl), (hx.2.2.2.2.2.2.2.2.2.2.2.2.2.2.2.2.1 rfl), (hx.2.2.2.2.2.2.2.2.2.2.2.2.2.2.2.2.2.1 rfl), (hx.2.2.2.2.2.2.2.2.2.2.2.2.2.2.2.2.2.2.1 rfl), (hx.2.2.2.2.2.2.2.2.2.2.2.2.2.2.2.2.2.2.2.1 rfl), (hx.2.2.2.2.2.2.2.2.2.2.2.2.2.2.2.2.2.2.2.2.1 rfl), (hx.2.2.2.2.2.2.2.2.2.2.2.2.2.2.2.2.2.2.2.2.2 rfl)⟩)
    · have d1 := off_sl ho (0, 9)
      have d2 := off_ne ho (17, 0)
      have d3 := off_ne ho (18, 0)
      have d4 := off_ne ho (79, 0)
      have d5 := off_ne ho (80, 0)
      have d6 := off_sl ho (55, 29)
      have d7 := (hh.resolve_left (by decide)) j hj
      rw [rz, if_neg d6, if_neg (fun z => d5 z.1), if_neg (fun z => d4 z.1), rd, if_neg (fun z => d7 z.1), if_neg (fun z => d3 z.1), if_neg (fun z => d2 z.1), if_neg d1]
    · have lo : ∀ a k, a ≠ 17 → a ≠ 18 → a ≠ 79 → a ≠ 80 → ¬ (a = 0 ∧ k = 9) → ¬ (a = 55 ∧ k = 29) → ¬ (a = (S.2.2.1 j) ∧ k = 9) → gI (gp_sI (gp_sI (gp_sI (gp_sI (gp_sI (gp_sI (gp_sI X 0 9 (nI (N 5 + 1))) 17 (N 5 + 1) x2) 18 (N 5 + 1) (gI X (S.2.2.1 j) 9)) (S.2.2.1 j) 9 (nI (N 5 + 1))) 79 (N 5) (nI j)) 80 (N 5) x2) 55 29 (nI (N 5 + 1))) a k = gI X a k := fun a k b1 b2 b3 b4 b5 b6 b7 => by
        rw [rz, if_neg b6, if_neg (fun z => b4 z.1), if_neg (fun z => b3 z.1), rd, if_neg b7, if_neg (fun z => b2 z.1), if_neg (fun z => b1 z.1), if_neg b5]
      have hz : ∀ k, k ≠ 9 → gI (gp_sI (gp_sI (gp_sI (gp_sI (gp_sI (gp_sI (gp_sI X 0 9 (nI (N 5 + 1))) 17 (N 5 + 1) x2) 18 (N 5 + 1) (gI X (S.2.2.1 j) 9)) (S.2.2.1 j) 9 (nI (N 5 + 1))) 79 (N 5) (nI j)) 80 (N 5) x2) 55 29 (nI (N 5 + 1))) (S.2.2.1 j) k = gI X (S.2.2.1 j) k := fun k hk => lo _ _ (by omega) (by omega) (by omega) (by omega) (by omega) (by omega) (fun z => hk z.2)
      have zr : ∀ r, 74 ≤ r → r ≤ 78 → gI (gp_sI (gp_sI (gp_sI (gp_sI (gp_sI (gp_sI (gp_sI X 0 9 (nI (N 5 + 1))) 17 (N 5 + 1) x2) 18 (N 5 + 1) (gI X (S.2.2.1 j) 9)) (S.2.2.1 j) 9 (nI (N 5 + 1))) 79 (N 5) (nI j)) 80 (N 5) x2) 55 29 (nI (N 5 + 1))) r j = gI X r j := fun r r1 r2 => lo _ _ (by omega) (by omega) (by omega) (by omega) (by omega) (by omega) (by omega)
      refine I_hom_up (j := j) h.hom (lo _ _ (by omega) (by omega) (by omega) (by omega) (by omega) (by omega) (by omega)) (lo _ _ (by omega) (by omega) (by omega) (by omega) (by omega) (by omega) (by omega)) (fun r r1 r2 k => lo _ _ (by omega) (by omega) (by omega) (by omega) (by omega) (by omega) (by omega)) (fun r r1 r2 k hk => lo _ _ (by omega) (by omega) (by omega) (by omega) (by omega) (by omega) (by omega)) (fun i hi k hk => ?_) (fun i hi hn k => ?_) ?_ ?_ ?_ ?_ ?_ ?_ ?_ ?_
      · have := hm_big hL hi
        exact lo _ _ (by omega) (by omega) (by omega) (by omega) (by omega) (by omega) (by omega)
      · have := hm_big hL hi
        have ne := hm_ne hL hi hj hn
        exact lo _ _ (by omega) (by omega) (by omega) (by omega) (by omega) (by omega) (fun z => ne z.1)
      · rw [hz 4 (by decide), zr 74 (by decide) (by decide)]; exact a4
      · rw [hz 5 (by decide), zr 75 (by decide) (by decide)]; exact a5
      · rw [hz 6 (by decide), zr 76 (by decide) (by decide)]; exact a6
      · rw [hz 7 (by decide), zr 77 (by decide) (by decide)]; exact a7
      · rw [hz 8 (by decide), zr 78 (by decide) (by decide)]; exact a8
      · rw [zr 74 (by decide) (by decide)]; exact a10
      · rw [zr 78 (by decide) (by decide)]; exact a11
      · rw [zr 74 (by decide) (by decide), zr 78 (by decide) (by decide)]; exact a12
    · have r79 : ∀ k, gI (gp_sI (gp_sI (gp_sI (gp_sI (gp_sI (gp_sI (gp_sI X 0 9 (nI (N 5 + 1))) 17 (N 5 + 1) x2) 18 (N 5 + 1) (gI X (S.2.2.1 j) 9)) (S.2.2.1 j) 9 (nI (N 5 + 1))) 79 (N 5) (nI j)) 80 (N 5) x2) 55 29 (nI (N 5 + 1))) 79 k = if k = N 5 then nI j else gI X 79 k := fun k => by
        rw [rz, if_neg (by omega), if_neg (by omega)]
        by_cases z : k = N 5
        · rw [if_pos ⟨rfl, z⟩, if_pos z]
        · rw [if_neg (fun y => z y.2), if_neg z, rd, if_neg (by omega), if_neg (by omega), if_neg (by omega), if_neg (by omega)]
      have cg : ∀ i n, n ≤ N 5 → lastF (gI (gp_sI (gp_sI (gp_sI (gp_sI (gp_sI (gp_sI (gp_sI X 0 9 (nI (N 5 + 1))) 17 (N 5 + 1) x2) 18 (N 5 + 1) (gI X (S.2.2.1 j) 9)) (S.2.2.1 j) 9 (nI (N 5 + 1))) 79 (N 5) (nI j)) 80 (N 5) x2) 55 29 (nI (N 5 + 1))) 79) i n = lastF (gI X 79) i n := fun i n hn => lastF_cg i n (fun k hk => by rw [r79, if_neg (by omega)])
      refine ⟨⟨?_, ?_, hl⟩, fun i hi => ?_, fun i hi => ?_⟩
      · rw [rz, if_neg (by omega), if_neg (by omega), if_neg (by omega), rd, if_neg (by omega), if_neg (by omega), if_neg (by omega), if_pos ⟨rfl, rfl⟩]; rfl
      · rw [rz, if_pos ⟨rfl, rfl⟩]; rfl
      · have hi' : i < N 5 + 1 := hi
        by_cases z : i = N 5
        · subst z
          have e17 : gI (gp_sI (gp_sI (gp_sI (gp_sI (gp_sI (gp_sI (gp_sI X 0 9 (nI (N 5 + 1))) 17 (N 5 + 1) x2) 18 (N 5 + 1) (gI X (S.2.2.1 j) 9)) (S.2.2.1 j) 9 (nI (N 5 + 1))) 79 (N 5) (nI j)) 80 (N 5) x2) 55 29 (nI (N 5 + 1))) 17 (N 5 + 1) = x2 := by rw [rz, if_neg (by omega), if_neg (by omega), if_neg (by omega), rd, if_neg (by omega), if_neg (by omega), if_pos ⟨rfl, rfl⟩]
          have e18 : gI (gp_sI (gp_sI (gp_sI (gp_sI (gp_sI (gp_sI (gp_sI X 0 9 (nI (N 5 + 1))) 17 (N 5 + 1) x2) 18 (N 5 + 1) (gI X (S.2.2.1 j) 9)) (S.2.2.1 j) 9 (nI (N 5 + 1))) 79 (N 5) (nI j)) 80 (N 5) x2) 55 29 (nI (N 5 + 1))) 18 (N 5 + 1) = gI X (S.2.2.1 j) 9 := by rw [rz, if_neg (by omega), if_neg (by omega), if_neg (by omega), rd, if_neg (by omega), if_pos ⟨rfl, rfl⟩]
          have e80 : gI (gp_sI (gp_sI (gp_sI (gp_sI (gp_sI (gp_sI (gp_sI X 0 9 (nI (N 5 + 1))) 17 (N 5 + 1) x2) 18 (N 5 + 1) (gI X (S.2.2.1 j) 9)) (S.2.2.1 j) 9 (nI (N 5 + 1))) 79 (N 5) (nI j)) 80 (N 5) x2) 55 29 (nI (N 5 + 1))) 80 (N 5) = x2 := by rw [rz, if_neg (by omega), if_pos ⟨rfl, rfl⟩]
          rw [e17, e18, e80]
          exact ⟨rfl, ⟨j, hj, row_at r79, by rw [cg j (N 5) (Nat.le_refl _)]; exact q2 j hj⟩, Int32.not_le.mp o1, o2⟩
        · have e17 : gI (gp_sI (gp_sI (gp_sI (gp_sI (gp_sI (gp_sI (gp_sI X 0 9 (nI (N 5 + 1))) 17 (N 5 + 1) x2) 18 (N 5 + 1) (gI X (S.2.2.1 j) 9)) (S.2.2.1 j) 9 (nI (N 5 + 1))) 79 (N 5) (nI j)) 80 (N 5) x2) 55 29 (nI (N 5 + 1))) 17 (i + 1) = gI X 17 (i + 1) := by rw [rz, if_neg (by omega), if_neg (by omega), if_neg (by omega), rd, if_neg (by omega), if_neg (by omega), if_neg (by omega), if_neg (by omega)]
          have e18 : gI (gp_sI (gp_sI (gp_sI (gp_sI (gp_sI (gp_sI (gp_sI X 0 9 (nI (N 5 + 1))) 17 (N 5 + 1) x2) 18 (N 5 + 1) (gI X (S.2.2.1 j) 9)) (S.2.2.1 j) 9 (nI (N 5 + 1))) 79 (N 5) (nI j)) 80 (N 5) x2) 55 29 (nI (N 5 + 1))) 18 (i + 1) = gI X 18 (i + 1) := by rw [rz, if_neg (by omega), if_neg (by omega), if_neg (by omega), rd, if_neg (by omega), if_neg (by omega), if_neg (by omega), if_neg (by omega)]
          have e80 : gI (gp_sI (gp_sI (gp_sI (gp_sI (gp_sI (gp_sI (gp_sI X 0 9 (nI (N 5 + 1))) 17 (N 5 + 1) x2) 18 (N 5 + 1) (gI X (S.2.2.1 j) 9)) (S.2.2.1 j) 9 (nI (N 5 + 1))) 79 (N 5) (nI j)) 80 (N 5) x2) 55 29 (nI (N 5 + 1))) 80 i = gI X 80 i := by rw [rz, if_neg (by omega), if_neg (by omega), if_neg (by omega), rd, if_neg (by omega), if_neg (by omega), if_neg (by omega), if_neg (by omega)]
          obtain ⟨b1, ⟨j', b2, b3, b4⟩, b5⟩ := q1 i (by omega)
          rw [e17, e18, e80]
          exact ⟨b1, ⟨j', b2, by rw [r79, if_neg z]; exact b3, by rw [cg j' i (by omega)]; exact b4⟩, b5⟩
      · have := hm_big hL hi
        have e0 : lastF (gI (gp_sI (gp_sI (gp_sI (gp_sI (gp_sI (gp_sI (gp_sI X 0 9 (nI (N 5 + 1))) 17 (N 5 + 1) x2) 18 (N 5 + 1) (gI X (S.2.2.1 j) 9)) (S.2.2.1 j) 9 (nI (N 5 + 1))) 79 (N 5) (nI j)) 80 (N 5) x2) 55 29 (nI (N 5 + 1))) 79) i (N 5 + 1) = if nI j = nI i then N 5 + 1 else lastF (gI X 79) i (N 5) := by
          show (if gI (gp_sI (gp_sI (gp_sI (gp_sI (gp_sI (gp_sI (gp_sI X 0 9 (nI (N 5 + 1))) 17 (N 5 + 1) x2) 18 (N 5 + 1) (gI X (S.2.2.1 j) 9)) (S.2.2.1 j) 9 (nI (N 5 + 1))) 79 (N 5) (nI j)) 80 (N 5) x2) 55 29 (nI (N 5 + 1))) 79 (N 5) = nI i then N 5 + 1 else lastF (gI (gp_sI (gp_sI (gp_sI (gp_sI (gp_sI (gp_sI (gp_sI X 0 9 (nI (N 5 + 1))) 17 (N 5 + 1) x2) 18 (N 5 + 1) (gI X (S.2.2.1 j) 9)) (S.2.2.1 j) 9 (nI (N 5 + 1))) 79 (N 5) (nI j)) 80 (N 5) x2) 55 29 (nI (N 5 + 1))) 79) i (N 5)) = _
          rw [row_at r79, cg i (N 5) (Nat.le_refl _)]
        show gI (gp_sI (gp_sI (gp_sI (gp_sI (gp_sI (gp_sI (gp_sI X 0 9 (nI (N 5 + 1))) 17 (N 5 + 1) x2) 18 (N 5 + 1) (gI X (S.2.2.1 j) 9)) (S.2.2.1 j) 9 (nI (N 5 + 1))) 79 (N 5) (nI j)) 80 (N 5) x2) 55 29 (nI (N 5 + 1))) (S.2.2.1 i) 9 = nI (lastF (gI (gp_sI (gp_sI (gp_sI (gp_sI (gp_sI (gp_sI (gp_sI X 0 9 (nI (N 5 + 1))) 17 (N 5 + 1) x2) 18 (N 5 + 1) (gI X (S.2.2.1 j) 9)) (S.2.2.1 j) 9 (nI (N 5 + 1))) 79 (N 5) (nI j)) 80 (N 5) x2) 55 29 (nI (N 5 + 1))) 79) i (N 5 + 1))
        rw [e0]
        by_cases z : i = j
        · subst z
          rw [if_pos rfl, rz, if_neg (by omega), if_neg (by omega), if_neg (by omega), rd, if_pos ⟨rfl, rfl⟩]
        · have ne := hm_ne hL hi hj z
          rw [if_neg (fun y => z ((nI_eq (by omega) (by omega)).mp y).symm), rz, if_neg (by omega), if_neg (by omega), if_neg (by omega), rd, if_neg (fun y => ne y.1), if_neg (by omega), if_neg (by omega), if_neg (by omega)]
          exact q2 i hi
  · obtain ⟨o1, o2⟩ := ok.mp ⟨c, c2⟩
    have hl : ¬ N 5 < 300 := fun y => c3 ((nI_lt_lit (k := 300) rfl (by omega) (by omega)).mpr y)
    exact ⟨_, rfl, hL, rf_0 X, (hm_at hL hj).2, R hL (rf_0 X) ⟨fun _ => ⟨fun z => absurd z o1, fun _ => ⟨fun _ => ⟨fun z => absurd ((nI_eq_lit (n := N 5) (k := 300) rfl (by omega) (by omega)).mpr (by omega)) z, fun _ => ⟨rfl, N, h⟩⟩, fun z => absurd o2 z⟩⟩, fun z => bne c1 z⟩⟩
theorem p_survey {E : gp_E} {N : Nat → Nat} {S : gp_S} {X : gp_H} (h : Inv N S X) (x1 x2 : Int32) : Ev E m_ga_survey 0 [(0, .ref 0), (1, .int x1), (2, .int x2)] [] X (0, 0) (gp_two E m_mo_survey [(0, .ref 55), (1, .int x1), (2, .int x2)]) := by
  have hL := h.lay
  have l := l40 hL
  refine b_ga_survey_0 hL (wh_home h (fun j hj e => ?_) (fun c1 => ⟨_, S, rfl, hL, b_mo_survey_0 hL (by rw [h.hom.1.2]; exact ⟨fun z => bnf c1 z, fun _ => ⟨rfl, N, h⟩⟩)⟩))
  subst e
  exact ⟨_, sv_two h hj x2, fun r Y ⟨v, hr, lY, gY, aY, k⟩ => ⟨v, hr, lY, aY, v, S, rfl, lY, k⟩⟩
