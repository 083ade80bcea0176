section SUMS
variable {E : gp_E} {N : Nat → Nat} {S : gp_S} {X Y : gp_H}
theorem hm_at (h : Lay S X) {j : Nat} (hj : j < S.1) : X.2.2.1 16 j = some (S.2.2.1 j) ∧ gp_at X (S.2.2.1 j) (3, 0) := ⟨(h.2.2.2.2.1 j hj).1, (h.2.2.2.2.1 j hj).2.1⟩
theorem l40 (h : Lay S X) : S.1 ≤ 40 := h.2.2.2.2.2.2.2.2
theorem l12 (h : Lay S X) : S.2.1 ≤ 12 := h.2.2.2.2.2.2.2.1
/-- a sum's next -/
theorem sm_0 {f : Nat → Int32} {k : Nat} (h : f k = 0) : sm f (k + 1) = sm f k := by
  show sm f k + f k = _
  rw [h, Int32.add_zero]
theorem sm_1 {f : Nat → Int32} {k : Nat} {v : Int32} (h : f k = v) : sm f (k + 1) = sm f k + v := by
  show sm f k + f k = _
  rw [h]
/-- what the works make in a set -/
def mkF (X : gp_H) (m : Int32) (w : Nat) : Int32 := if ¬ gI X 63 w = 0 ∧ gb m (gI X 60 w) = true then gI X 61 w else 0
def mkS (N : Nat → Nat) (X : gp_H) (m : Int32) : Int32 := sm (mkF X m) (N 2)
theorem s_ne_makeIn (h : Inv N S X) (m : Int32) : Ev E m_ne_makeIn 0 [(0, .ref 1), (1, .int m)] [] X (0, 0) (gp_q (some (.int (mkS N X m))) X) := by
  obtain ⟨⟨k1, k2, k3⟩, q1, q2, q3⟩ := h.wrk
  have hX := h.lay
  refine b_ne_makeIn_0 hX ?_
  refine dn (P := fun k => Ev E m_ne_makeIn 4 [(0, .ref 1), (1, .int m), (2, .int (sm (mkF X m) k)), (3, .int (nI k))] [] X (0, 0) (gp_q (some (.int (sm (mkF X m) (N 2)))) X)) (n := N 2) ?_ ?_
  · exact b_ne_makeIn_4 hX ⟨fun _ => ⟨rfl, rfl⟩, fun z => absurd (by rw [k1]; exact Int32.le_refl _) z⟩
  · intro k hk ih
    refine b_ne_makeIn_4 hX ⟨fun z => absurd z (by rw [k1]; exact nI_nge hk (by omega)), fun _ => ⟨vin (by omega) (by omega), ?_⟩⟩
    have e := q1 k
    rw [nI_c (by omega), nI_s, e.1, e.2.1, e.2.2.2]
    refine ⟨fun c => ?_, fun c => ⟨fun c2 => ?_, fun c2 => ?_⟩⟩
    · rw [sm_0 (if_neg (fun q => q.1 c))] at ih; exact ih
    · rw [sm_0 (if_neg (fun q => bnf c2 q.2))] at ih; exact ih
    · rw [sm_1 (if_pos ⟨c, c2⟩)] at ih; exact ih
theorem s_mo_makeAt' (h : Inv N S X) (hX : Lay S Y) (g : Rf X Y) (m : Int32) : Ev E m_mo_makeAt 0 [(0, .ref 55), (1, .int m)] [] Y (0, 0) (gp_q (some (.int (mkS N X m))) Y) := by
  obtain ⟨⟨k1, k2, k3⟩, q1, q2, q3⟩ := h.wrk
  refine b_mo_makeAt_0 hX ?_
  refine dn (P := fun k => Ev E m_mo_makeAt 4 [(0, .ref 55), (1, .int m), (2, .int (sm (mkF X m) k)), (3, .int (nI k))] [] Y (0, 0) (gp_q (some (.int (sm (mkF X m) (N 2)))) Y)) (n := N 2) ?_ ?_
  · exact b_mo_makeAt_4 hX ⟨fun _ => ⟨rfl, rfl⟩, fun z => absurd (by rw [g 55 6 rfl, k2]; exact Int32.le_refl _) z⟩
  · intro k hk ih
    refine b_mo_makeAt_4 hX ⟨fun z => absurd z (by rw [g 55 6 rfl, k2]; exact nI_nge hk (by omega)), fun _ => ⟨vin (by omega) (by omega), ?_⟩⟩
    rw [nI_c (by omega), g 63 _ rfl, g 60 _ rfl, g 61 _ rfl]
    refine ⟨fun c => b_mo_makeAt_44 hX ?_, fun c => ⟨fun c2 => b_mo_makeAt_44 hX ?_, fun c2 => ?_⟩⟩
    · rw [sm_0 (if_neg (fun q => q.1 c))] at ih; rw [Int32.add_zero, nI_s]; exact ih
    · rw [sm_0 (if_neg (fun q => bnf c2 q.2))] at ih; rw [Int32.add_zero, nI_s]; exact ih
    · rw [sm_1 (if_pos ⟨c, c2⟩)] at ih; rw [nI_s]; exact ih
theorem s_mo_makeAt (h : Inv N S X) (m : Int32) : Ev E m_mo_makeAt 0 [(0, .ref 55), (1, .int m)] [] X (0, 0) (gp_q (some (.int (mkS N X m))) X) := s_mo_makeAt' h h.lay (rf_0 X) m
/-- what the homes use in a set: o: the old alone -/
def usF (X : gp_H) (m o : Int32) (j : Nat) : Int32 := if ((o = 0 ∧ ¬ gI X 74 j = 2) ∨ (¬ o = 0 ∧ gI X 74 j = 0)) ∧ gb m (gI X 70 j) = true then gI X 71 j else 0
def usS (S : gp_S) (X : gp_H) (m o : Int32) : Int32 := sm (usF X m o) S.1
theorem s_ga_useIn' (h : Inv N S X) (hX : Lay S Y) (g : Cf X Y) (m o : Int32) : Ev E m_ga_useIn 0 [(0, .ref 0), (1, .int m), (2, .int o)] [] Y (0, 0) (gp_q (some (.int (usS S X m o))) Y) := by
  obtain ⟨⟨k1, k2⟩, q1⟩ := h.hom
  have l := l40 hX
  refine b_ga_useIn_0 hX ?_
  refine dn (P := fun k => Ev E m_ga_useIn 5 [(0, .ref 0), (1, .int m), (2, .int o), (3, .int (sm (usF X m o) k)), (4, .int (nI k))] [] Y (0, 0) (gp_q (some (.int (sm (usF X m o) S.1))) Y)) (n := S.1) ?_ ?_
  · exact b_ga_useIn_5 hX ⟨fun _ => ⟨rfl, rfl⟩, fun z => absurd (by rw [g 0 6 rfl, k1]; exact Int32.le_refl _) z⟩
  · intro k hk ih
    obtain ⟨⟨e0, e1, e2, e3, e4, -⟩, -⟩ := q1 k hk
    rw [← cf_hm g hX hk] at e0 e1 e4
    obtain ⟨r1, r2⟩ := hm_at hX hk
    have vi : vp_in (nI k) 40 := vin (by omega) (by omega)
    have cl : Int32.toNatClampNeg (nI k) = k := nI_c (by omega)
    have f0 : ∀ {t : Int32}, t = 0 → ¬ ((o = 0 ∧ ¬ gI X 74 k = 2) ∨ (¬ o = 0 ∧ gI X 74 k = 0)) → Ev E m_ga_useIn 58 [(0, .ref 0), (1, .int m), (2, .int o), (3, .int (sm (usF X m o) k)), (4, .int (nI k))] [.int t] Y (0, 0) (gp_q (some (.int (sm (usF X m o) S.1))) Y) := by
      intro t ht c
      refine b_ga_useIn_58 hX ⟨fun _ => ?_, fun z => absurd ht z⟩
      rw [sm_0 (if_neg (fun q => c q.1))] at ih; rw [nI_s]; exact ih
    have f1 : ((o = 0 ∧ ¬ gI X 74 k = 2) ∨ (¬ o = 0 ∧ gI X 74 k = 0)) → Ev E m_ga_useIn 58 [(0, .ref 0), (1, .int m), (2, .int o), (3, .int (sm (usF X m o) k)), (4, .int (nI k))] [.int 1] Y (0, 0) (gp_q (some (.int (sm (usF X m o) S.1))) Y) := by
      intro c
      refine b_ga_useIn_58 hX ⟨fun z => absurd z (by decide), fun _ => ⟨vi, S.2.2.1 k, by rw [cl]; exact r1, r2, fun c2 => ?_, fun c2 => ⟨vi, S.2.2.1 k, by rw [cl]; exact r1, r2, ?_⟩⟩⟩
      · rw [e0] at c2
        rw [sm_0 (if_neg (fun q => bnf c2 q.2))] at ih; rw [nI_s]; exact ih
      · rw [e0] at c2
        rw [sm_1 (if_pos ⟨c, c2⟩)] at ih; rw [nI_s, e1]; exact ih
    refine b_ga_useIn_5 hX ⟨fun z => absurd z (by rw [g 0 6 rfl, k1]; exact nI_nge hk (by omega)), fun _ => ⟨fun c => ⟨vi, S.2.2.1 k, by rw [cl]; exact r1, r2, ?_⟩, fun c => ⟨vi, S.2.2.1 k, by rw [cl]; exact r1, r2, ?_⟩⟩⟩
    · rw [e4]
      exact ⟨fun c2 => f0 rfl (fun q => q.elim (fun q => q.2 c2) (fun q => q.1 c)), fun c2 => f1 (Or.inl ⟨c, c2⟩)⟩
    · rw [e4]
      exact ⟨fun c2 => f0 rfl (fun q => q.elim (fun q => c q.1) (fun q => c2 q.2)), fun c2 => f1 (Or.inr ⟨c, c2⟩)⟩
theorem s_ga_useIn (h : Inv N S X) (m o : Int32) : Ev E m_ga_useIn 0 [(0, .ref 0), (1, .int m), (2, .int o)] [] X (0, 0) (gp_q (some (.int (usS S X m o))) X) := s_ga_useIn' h h.lay (cf_0 X) m o
theorem s_mo_useAt' (h : Inv N S X) (hX : Lay S Y) (g : Rf X Y) (m o : Int32) : Ev E m_mo_useAt 0 [(0, .ref 55), (1, .int m), (2, .int o)] [] Y (0, 0) (gp_q (some (.int (usS S X m o))) Y) := by
  obtain ⟨⟨k1, k2⟩, q1⟩ := h.hom
  have l := l40 hX
  refine b_mo_useAt_0 hX ?_
  refine dn (P := fun k => Ev E m_mo_useAt 5 [(0, .ref 55), (1, .int m), (2, .int o), (3, .int (sm (usF X m o) k)), (4, .int (nI k))] [] Y (0, 0) (gp_q (some (.int (sm (usF X m o) S.1))) Y)) (n := S.1) ?_ ?_
  · exact b_mo_useAt_5 hX ⟨fun _ => ⟨rfl, rfl⟩, fun z => absurd (by rw [g 55 19 rfl, k2]; exact Int32.le_refl _) z⟩
  · intro k hk ih
    have vi : vp_in (nI k) 40 := vin (by omega) (by omega)
    have cl : Int32.toNatClampNeg (nI k) = k := nI_c (by omega)
    have f0 : ∀ {t : Int32}, t = 0 → ¬ ((o = 0 ∧ ¬ gI X 74 k = 2) ∨ (¬ o = 0 ∧ gI X 74 k = 0)) → Ev E m_mo_useAt 52 [(0, .ref 55), (1, .int m), (2, .int o), (3, .int (sm (usF X m o) k)), (4, .int (nI k))] [.int t] Y (0, 0) (gp_q (some (.int (sm (usF X m o) S.1))) Y) := by
      intro t ht c
      refine b_mo_useAt_52 hX ⟨fun _ => b_mo_useAt_84 hX ?_, fun z => absurd ht z⟩
      rw [sm_0 (if_neg (fun q => c q.1))] at ih; rw [nI_s, Int32.add_zero]; exact ih
    have f1 : ((o = 0 ∧ ¬ gI X 74 k = 2) ∨ (¬ o = 0 ∧ gI X 74 k = 0)) → Ev E m_mo_useAt 52 [(0, .ref 55), (1, .int m), (2, .int o), (3, .int (sm (usF X m o) k)), (4, .int (nI k))] [.int 1] Y (0, 0) (gp_q (some (.int (sm (usF X m o) S.1))) Y) := by
      intro c
      refine b_mo_useAt_52 hX ⟨fun z => absurd z (by decide), fun _ => ⟨vi, ?_⟩⟩
      rw [cl, g 70 _ rfl, g 71 _ rfl]
      refine ⟨fun c2 => b_mo_useAt_84 hX ?_, fun c2 => ?_⟩
      · rw [sm_0 (if_neg (fun q => bnf c2 q.2))] at ih; rw [nI_s, Int32.add_zero]; exact ih
      · rw [sm_1 (if_pos ⟨c, c2⟩)] at ih; rw [nI_s]; exact ih
    refine b_mo_useAt_5 hX ⟨fun z => absurd z (by rw [g 55 19 rfl, k2]; exact nI_nge hk (by omega)), fun _ => ?_⟩
    rw [cl, g 74 _ rfl]
    exact ⟨fun c => ⟨vi, fun c2 => f0 rfl (fun q => q.elim (fun q => q.2 c2) (fun q => q.1 c)), fun c2 => f1 (Or.inl ⟨c, c2⟩)⟩, fun c => ⟨vi, fun c2 => f0 rfl (fun q => q.elim (fun q => c q.1) (fun q => c2 q.2)), fun c2 => f1 (Or.inr ⟨c, c2⟩)⟩⟩
theorem s_mo_useAt (h : Inv N S X) (m o : Int32) : Ev E m_mo_useAt 0 [(0, .ref 55), (1, .int m), (2, .int o)] [] X (0, 0) (gp_q (some (.int (usS S X m o))) X) := s_mo_useAt' h h.lay (rf_0 X) m o
/-- sums of small numbers -/
theorem sm_nat {f : Nat → Int32} {B : Nat} : ∀ n, (∀ w, w < n → ∃ a, a ≤ B ∧ f w = nI a ∧ a < 2 ^ 31) → ∃ t, t ≤ B * n ∧ sm f n = nI t ∧ (t = 0 ↔ ∀ w, w < n → f w = 0)
  | 0, _ => ⟨0, Nat.zero_le _, rfl, ⟨fun _ w hw => absurd hw (Nat.not_lt_zero _), fun _ => rfl⟩⟩
  | n + 1, h => by
    obtain ⟨t, h1, h2, h3⟩ := sm_nat n (fun w hw => h w (by omega))
    obtain ⟨a, a1, a2, a3⟩ := h n (by omega)
    refine ⟨t + a, by rw [Nat.mul_succ]; omega, by show sm f n + f n = _; rw [h2, a2, nI_add], ?_⟩
    constructor
    · intro z w hw
      rcases Nat.lt_or_ge w n with q | q
      · exact h3.mp (by omega) w q
      · obtain rfl : w = n := by omega
        rw [a2, show a = 0 by omega]; rfl
    · intro z
      have e1 := h3.mpr (fun w hw => z w (by omega))
      have e2 := z n (by omega)
      rw [a2] at e2
      have : a = 0 := (nI_eq a3 (by omega)).mp e2
      omega
theorem mk_nat (h : Inv N S X) (m : Int32) : ∃ t, t ≤ 2500 ∧ mkS N X m = nI t ∧ (t = 0 ↔ ∀ w, w < N 2 → mkF X m w = 0) := by
  obtain ⟨⟨k1, k2, k3⟩, q1, q2, q3⟩ := h.wrk
  obtain ⟨t, h1, h2, h3⟩ := sm_nat (f := mkF X m) (B := 500) (N 2) (fun w hw => by
    obtain ⟨i, a, c, p1, p2, p3, p4, p5, -⟩ := q2 w hw
    unfold mkF
    split
    · exact ⟨a, p4, p5, by omega⟩
    · exact ⟨0, by omega, rfl, by omega⟩)
  exact ⟨t, by have := Nat.mul_le_mul_left 500 k3; omega, h2, h3⟩
theorem us_nat (h : Inv N S X) (m o : Int32) : ∃ t, t ≤ 800 ∧ usS S X m o = nI t := by
  obtain ⟨⟨k1, k2⟩, q1⟩ := h.hom
  have l := l40 h.lay
  obtain ⟨t, h1, h2, h3⟩ := sm_nat (f := usF X m o) (B := 20) S.1 (fun w hw => by
    obtain ⟨-, ⟨a, b, c, p1, p2, p3, p4, p5, -⟩, -⟩ := q1 w hw
    unfold usF
    split
    · exact ⟨b, p4, p5, by omega⟩
    · exact ⟨0, by omega, rfl, by omega⟩)
  exact ⟨t, by have := Nat.mul_le_mul_left 20 l; omega, h2⟩
/-- sets out of many -/
def orF (f : Nat → Int32) : Nat → Int32
  | 0 => 0
  | n + 1 => orF f n ||| f n
theorem or_0 {f : Nat → Int32} {k : Nat} (h : f k = 0) : orF f (k + 1) = orF f k := by
  show orF f k ||| f k = _
  rw [h, Int32.or_zero]
theorem or_1 {f : Nat → Int32} {k : Nat} {v : Int32} (h : f k = v) : orF f (k + 1) = orF f k ||| v := by
  show orF f k ||| f k = _
  rw [h]
theorem or_bt {f : Nat → Int32} {i : Nat} : ∀ n, bt (orF f n) i = true ↔ ∃ w, w < n ∧ bt (f w) i = true
  | 0 => ⟨fun z => by rw [orF, b_0] at z; exact absurd z (by decide), fun ⟨w, hw, _⟩ => absurd hw (Nat.not_lt_zero _)⟩
  | n + 1 => by
    rw [orF, b_or, Bool.or_eq_true, or_bt n]
    constructor
    · rintro (⟨w, hw, c⟩ | c)
      · exact ⟨w, by omega, c⟩
      · exact ⟨n, by omega, c⟩
    · rintro ⟨w, hw, c⟩
      rcases Nat.lt_or_ge w n with q | q
      · exact Or.inl ⟨w, q, c⟩
      · obtain rfl : w = n := by omega
        exact Or.inr c
def odF (X : gp_H) (w : Nat) : Int32 := if gI X 63 w = 0 then 0 else (1 : Int32) <<< (gI X 60 w &&& 31)
def odS (N : Nat → Nat) (X : gp_H) : Int32 := orF (odF X) (N 2)
def teS (X : gp_H) : Int32 := if gI X 55 11 = -1 then 0 else (1 : Int32) <<< (gI X 55 11 &&& 31)
theorem s_ne_oldReach (h : Inv N S X) : Ev E m_ne_oldReach 0 [(0, .ref 1)] [] X (0, 0) (gp_q (some (.int (rch N X (odS N X) (allm (N 0)) 1))) X) := by
  obtain ⟨⟨k1, k2, k3⟩, q1, q2, q3⟩ := h.wrk
  have hX := h.lay
  have hn := h.net.1
  refine b_ne_oldReach_0 hX ?_
  refine dn (P := fun k => Ev E m_ne_oldReach 4 [(0, .ref 1), (1, .int (orF (odF X) k)), (2, .int (nI k))] [] X (0, 0) (gp_q (some (.int (rch N X (odS N X) (allm (N 0)) 1))) X)) (n := N 2) ?_ ?_
  · refine b_ne_oldReach_4 hX ⟨fun _ => ?_, fun z => absurd (by rw [k1]; exact Int32.le_refl _) z⟩
    rw [hn.1]
    exact wh_i (s_spread7 h h.lay (cf_0 X) (low12 hn.2.2)) hX ⟨rfl, rfl⟩
  · intro k hk ih
    refine b_ne_oldReach_4 hX ⟨fun z => absurd z (by rw [k1]; exact nI_nge hk (by omega)), fun _ => ⟨vin (by omega) (by omega), ?_⟩⟩
    have e := q1 k
    rw [nI_c (by omega), nI_s, e.1, e.2.2.2]
    refine ⟨fun c => ?_, fun c => ?_⟩
    · rw [or_0 (if_pos c)] at ih; exact ih
    · rw [or_1 (if_neg c)] at ih; exact ih
theorem s_ne_terminalBit (h : Inv N S X) : Ev E m_ne_terminalBit 0 [(0, .ref 1)] [] X (0, 0) (gp_q (some (.int (teS X))) X) := by
  have e : gI X 1 8 = gI X 55 11 := h.net.2.2.2.2.2.2.2.2.1
  refine b_ne_terminalBit_0 h.lay ?_
  rw [e]
  exact ⟨fun c => ⟨by unfold teS; rw [if_neg c], rfl⟩, fun c => ⟨by unfold teS; rw [if_pos c], rfl⟩⟩
theorem s_ne_newReach (h : Inv N S X) : Ev E m_ne_newReach 0 [(0, .ref 1)] [] X (0, 0) (gp_q (some (.int (rch N X (teS X) (allm (N 0)) 1))) X) := by
  have hn := h.net.1
  refine b_ne_newReach_0 h.lay (wh_i (s_ne_terminalBit h) h.lay ?_)
  rw [hn.1]
  exact wh_i (s_spread7 h h.lay (cf_0 X) (low12 hn.2.2)) h.lay ⟨rfl, rfl⟩
theorem s_ne_fedWithin (h : Inv N S X) {m : Int32} (hm : low 12 m) : Ev E m_ne_fedWithin 0 [(0, .ref 1), (1, .int m)] [] X (0, 0) (gp_q (some (.int (rch N X (teS X) m 0))) X) :=
  b_ne_fedWithin_0 h.lay (wh_i (s_ne_terminalBit h) h.lay (wh_i (s_spread6 h h.lay (cf_0 X) hm) h.lay ⟨rfl, rfl⟩))
/-- reach is the same both ways, and of many the sum -/
theorem rcR_sym {m o : Int32} {i j : Nat} (h : rcR N X m o i j) : rcR N X m o j i := by
  obtain ⟨p, a, b, c, d, e, f⟩ := h
  exact ⟨p, a, b, c, d, f, e⟩
theorem one_S {m : Int32} {f i : Nat} (hf : f < 32) : spS ((1 : Int32) <<< (nI f &&& 31)) m i ↔ i = f ∧ bt m f = true := by
  constructor
  · rintro ⟨a, b⟩
    rw [bt_shl hf (bt_32 a), decide_eq_true_eq] at a
    subst a
    exact ⟨rfl, b⟩
  · rintro ⟨rfl, b⟩
    exact ⟨by rw [bt_shl hf hf]; exact decide_eq_true rfl, b⟩
theorem clo_tr {s s' : Nat → Prop} {r : Nat → Nat → Prop} {k : Nat} (h : Clo s r k) (h0 : ∀ i, s i → Clo s' r i) : Clo s' r k := clo_in (Clo s' r) h h0 (fun _ _ a b => clo_s a b)
theorem rc_m {m s o : Int32} {k : Nat} (h : Clo (spS s m) (rcR N X m o) k) : bt m k = true := clo_in (fun i => bt m i = true) h (fun i hi => hi.2) (fun i j _ ⟨p, _, _, c, d, _, f⟩ => by rcases f with f | f <;> rw [f] <;> assumption)
theorem rc_sym {m o : Int32} {f k : Nat} (hf : f < 32) (h : Clo (spS ((1 : Int32) <<< (nI f &&& 31)) m) (rcR N X m o) k) : Clo (spS ((1 : Int32) <<< (nI k &&& 31)) m) (rcR N X m o) f := by
  refine (clo_in (fun i => bt m i = true ∧ Clo (spS ((1 : Int32) <<< (nI i &&& 31)) m) (rcR N X m o) f) h (fun i hi => ?_) (fun i j hi hr => ?_)).2
  · obtain ⟨rfl, b⟩ := (one_S hf).mp hi
    exact ⟨b, clo_0 ((one_S hf).mpr ⟨rfl, b⟩)⟩
  · have hj : bt m j = true := by
      obtain ⟨p, -, -, c, d, -, g⟩ := hr
      rcases g with g | g <;> rw [g] <;> assumption
    refine ⟨hj, clo_tr hi.2 (fun x hx => ?_)⟩
    obtain ⟨rfl, b⟩ := (one_S (bt_32 hi.1)).mp hx
    exact clo_s (clo_0 ((one_S (bt_32 hj)).mpr ⟨rfl, hj⟩)) (rcR_sym hr)
theorem bt_sym {m o : Int32} {f k : Nat} (hf : f < 32) (hk : k < 32) : bt (rch N X ((1 : Int32) <<< (nI f &&& 31)) m o) k = bt (rch N X ((1 : Int32) <<< (nI k &&& 31)) m o) f := by
  refine bt_iff ?_
  unfold rch
  rw [ST_bt hk, ST_bt hf]
  exact ⟨rc_sym hf, rc_sym hk⟩
theorem bt_many {s m o : Int32} {k : Nat} (hk : k < 32) : bt (rch N X s m o) k = true ↔ ∃ f, bt s f = true ∧ bt (rch N X ((1 : Int32) <<< (nI k &&& 31)) m o) f = true := by
  constructor
  · intro h
    have h' : Clo (spS s m) (rcR N X m o) k := (ST_bt hk).mp h
    obtain ⟨hm, f, hf, c⟩ := clo_in (fun i => bt m i = true ∧ ∃ f, bt s f = true ∧ Clo (spS ((1 : Int32) <<< (nI i &&& 31)) m) (rcR N X m o) f) h' (fun i hi => ⟨hi.2, i, hi.1, clo_0 ((one_S (bt_32 hi.1)).mpr ⟨rfl, hi.2⟩)⟩) (fun i j ⟨hi, f, hf, c⟩ hr => by
      have hj : bt m j = true := by
        obtain ⟨p, -, -, c, d, -, g⟩ := hr
        rcases g with g | g <;> rw [g] <;> assumption
      refine ⟨hj, f, hf, clo_tr c (fun x hx => ?_)⟩
      obtain ⟨rfl, b⟩ := (one_S (bt_32 hi)).mp hx
      exact clo_s (clo_0 ((one_S (bt_32 hj)).mpr ⟨rfl, hj⟩)) (rcR_sym hr))
    exact ⟨f, hf, (ST_bt (bt_32 hf)).mpr c⟩
  · rintro ⟨f, hf, c⟩
    rw [bt_sym hk (bt_32 hf)] at c
    have c' : Clo (spS ((1 : Int32) <<< (nI f &&& 31)) m) (rcR N X m o) k := (ST_bt hk).mp c
    refine (ST_bt hk).mpr (clo_tr c' (fun x hx => ?_))
    obtain ⟨rfl, b⟩ := (one_S (bt_32 hf)).mp hx
    exact clo_0 ⟨hf, b⟩
/-- GAS of a knot -/
def gsV (a b : Bool) : Int32 := (if a then 1 else 0) + (if b then 2 else 0)
noncomputable def gas (N : Nat → Nat) (X : gp_H) (k : Nat) : Int32 := gsV (bt (rch N X (odS N X) (allm (N 0)) 1) k) (bt (rch N X (teS X) (allm (N 0)) 1) k)
theorem s_ga_gasAt (hX : Lay S X) (k a b : Int32) : Ev E m_ga_gasAt 0 [(0, .int k), (1, .int a), (2, .int b)] [] X (0, 0) (gp_q (some (.int (gsV (gb a k) (gb b k)))) X) := by
  refine b_ga_gasAt_0 hX ⟨fun c => b_ga_gasAt_13 hX ⟨fun c2 => ?_, fun c2 => ?_⟩, fun c => b_ga_gasAt_13 hX ⟨fun c2 => ?_, fun c2 => ?_⟩⟩ <;> rw [c, c2] <;> exact ⟨by decide, rfl⟩
theorem gas_mk (h : Inv N S X) {k : Nat} (hk : k < 32) : bt (rch N X (odS N X) (allm (N 0)) 1) k = !decide (mkS N X (area N X k) ≤ 0) := by
  obtain ⟨⟨k1, k2, k3⟩, q1, q2, q3⟩ := h.wrk
  have hn := h.net.1
  obtain ⟨t, h1, h2, h3⟩ := mk_nat h (area N X k)
  rw [h2]
  have e : bt (rch N X (odS N X) (allm (N 0)) 1) k = true ↔ ¬ t = 0 := by
    rw [bt_many hk, h3]
    constructor
    · rintro ⟨f, hf, c⟩ z
      obtain ⟨w, hw, cw⟩ := (or_bt (N 2)).mp hf
      obtain ⟨i, m, cc, p1, p2, p3, p4, p5, -⟩ := q2 w hw
      unfold odF at cw
      by_cases c0 : gI X 63 w = 0
      · rw [if_pos c0, b_0] at cw; exact absurd cw (by decide)
      · rw [if_neg c0, p2, bt_shl (by omega) (bt_32 hf), decide_eq_true_eq] at cw
        have zz := z w hw
        unfold mkF at zz
        rw [p2, gb_bt _ (by omega), ← cw, if_pos ⟨c0, c⟩, p5] at zz
        have := (nI_eq (b := 0) (by omega) (by omega)).mp zz
        omega
    · intro z
      obtain ⟨w, hw⟩ := Classical.not_forall.mp z
      obtain ⟨hw, cw⟩ := Classical.not_imp.mp hw
      obtain ⟨i, m, cc, p1, p2, p3, p4, p5, -⟩ := q2 w hw
      unfold mkF at cw
      by_cases c0 : ¬ gI X 63 w = 0 ∧ gb (area N X k) (gI X 60 w) = true
      · obtain ⟨c1, c2⟩ := c0
        rw [p2, gb_bt _ (by omega)] at c2
        refine ⟨i, (or_bt (N 2)).mpr ⟨w, hw, ?_⟩, c2⟩
        unfold odF
        rw [if_neg c1, p2, bt_shl (by omega) (by omega)]
        exact decide_eq_true rfl
      · rw [if_neg c0] at cw; exact absurd rfl cw
  have e2 : nI t ≤ 0 ↔ t = 0 := by
    rw [show (0 : Int32) = nI 0 from rfl, nI_leI (by omega) (by omega)]; omega
  refine bt_iff (e.trans ?_)
  rw [Bool.not_eq_true', decide_eq_false_iff_not, e2]
theorem gas_te (h : Inv N S X) {k : Nat} (hk : k < 32) : bt (rch N X (teS X) (allm (N 0)) 1) k = (!decide (gI X 55 11 = -1) && gb (area N X k) (gI X 55 11)) := by
  have hn := h.net.1
  refine bt_iff ((bt_many hk).trans ?_)
  rw [Bool.and_eq_true, Bool.not_eq_true', decide_eq_false_iff_not]
  unfold teS
  rcases h.net.2.2.2.2.2.2.2.2.2 with c | ⟨t, ht, c⟩
  · rw [if_pos c]
    exact ⟨fun ⟨f, hf, _⟩ => by rw [b_0] at hf; exact absurd hf (by decide), fun q => absurd c q.1⟩
  · have hne : ¬ gI X 55 11 = -1 := by
      rw [c]; intro z
      have := congrArg Int32.toInt z
      rw [nI_toInt (by omega)] at this
      exact absurd this (by rw [show (-1 : Int32).toInt = -1 from by decide]; omega)
    rw [if_neg hne, c, gb_bt _ (by omega)]
    constructor
    · rintro ⟨f, hf, g⟩
      rw [bt_shl (by omega) (bt_32 hf), decide_eq_true_eq] at hf
      rw [← hf]
      exact ⟨by rw [hf, ← c]; exact hne, g⟩
    · rintro ⟨-, g⟩
      exact ⟨t, by rw [bt_shl (by omega) (by omega)]; exact decide_eq_true rfl, g⟩
theorem s_mo_gasAt (h : Inv N S X) {k : Nat} (hk : k < 32) : Ev E m_mo_gasAt 0 [(0, .ref 55), (1, .int (nI k))] [] X (0, 0) (gp_q (some (.int (gas N X k))) X) := by
  have hX := h.lay
  have fin : ∀ (a : Bool) (t0 : Int32), t0 = (if a then 1 else 0) → a = bt (rch N X (odS N X) (allm (N 0)) 1) k → Ev E m_mo_gasAt 19 [(0, .ref 55), (1, .int (nI k)), (2, .int (area N X k))] [.int t0] X (0, 0) (gp_q (some (.int (gas N X k))) X) := by
    intro a t0 e ea
    subst e
    have e2 := gas_te h hk
    refine b_mo_gasAt_19 hX ⟨fun c => ?_, fun c => ⟨fun c2 => ?_, fun c2 => ?_⟩⟩
    · rw [decide_eq_true c, Bool.not_true, Bool.false_and] at e2
      exact ⟨by unfold gas; rw [← ea, e2]; rfl, rfl⟩
    · rw [c2, Bool.and_false] at e2
      exact ⟨by unfold gas; rw [← ea, e2]; rfl, rfl⟩
    · rw [decide_eq_false c, c2] at e2
      exact ⟨by unfold gas; rw [← ea, e2]; rfl, rfl⟩
  refine b_mo_gasAt_0 hX (wh_i (s_mo_areaOf h k) hX (wh_i (s_mo_makeAt h _) hX ?_))
  have e1 := gas_mk h hk
  refine ⟨fun c => fin false _ rfl ?_, fun c => fin true _ rfl ?_⟩
  · rw [e1, decide_eq_true c]; rfl
  · rw [e1, decide_eq_false c]; rfl
theorem gas_V {k : Nat} (hk : k < 32) : gsV (gb (rch N X (odS N X) (allm (N 0)) 1) (nI k)) (gb (rch N X (teS X) (allm (N 0)) 1) (nI k)) = gas N X k := by
  rw [gb_bt _ hk, gb_bt _ hk]; rfl
/-- steps -/
def stF (X : gp_H) (v : Int32) (i : Nat) : Int32 := if v < gI X 64 i then 0 else 1
theorem s_ga_stepsUpTo (h : Inv N S X) (v : Int32) : Ev E m_ga_stepsUpTo 0 [(0, .ref 0), (1, .int v)] [] X (0, 0) (gp_q (some (.int (sm (stF X v) 4))) X) := by
  have hX := h.lay
  refine b_ga_stepsUpTo_0 hX ?_
  refine dn (P := fun k => Ev E m_ga_stepsUpTo 4 [(0, .ref 0), (1, .int v), (2, .int (sm (stF X v) k)), (3, .int (nI k))] [] X (0, 0) (gp_q (some (.int (sm (stF X v) 4))) X)) (n := 4) ?_ ?_
  · exact b_ga_stepsUpTo_4 hX ⟨fun _ => ⟨rfl, rfl⟩, fun z => absurd (Int32.le_refl _) z⟩
  · intro k hk ih
    refine b_ga_stepsUpTo_4 hX ⟨fun z => absurd z (nI_nge (b := 4) hk (by omega)), fun _ => ⟨vin (by omega) (by omega), ?_⟩⟩
    rw [nI_c (by omega), nI_s, h.stp k]
    refine ⟨fun c => ?_, fun c => ?_⟩
    · rw [sm_0 (if_pos c)] at ih; exact ih
    · rw [sm_1 (if_neg c)] at ih; exact ih
theorem s_mo_pressure88 (h : Inv N S X) (x1 x2 x3 x4 v : Int32) : Ev E m_mo_pressure 88 [(0, .ref 55), (1, .int x1), (2, .int x2), (3, .int x3), (4, .int x4), (5, .int v), (6, .int 0), (7, .int 0)] [] X (0, 0) (gp_q (some (.int (sm (stF X v) 4))) X) := by
  have hX := h.lay
  refine dn (P := fun k => Ev E m_mo_pressure 88 [(0, .ref 55), (1, .int x1), (2, .int x2), (3, .int x3), (4, .int x4), (5, .int v), (6, .int (sm (stF X v) k)), (7, .int (nI k))] [] X (0, 0) (gp_q (some (.int (sm (stF X v) 4))) X)) (n := 4) ?_ ?_
  · exact b_mo_pressure_88 hX ⟨fun _ => ⟨rfl, rfl⟩, fun z => absurd (Int32.le_refl _) z⟩
  · intro k hk ih
    refine b_mo_pressure_88 hX ⟨fun z => absurd z (nI_nge (b := 4) hk (by omega)), fun _ => ⟨vin (by omega) (by omega), ?_⟩⟩
    rw [nI_c (by omega), nI_s]
    refine ⟨fun c => ?_, fun c => ?_⟩
    · rw [sm_0 (if_pos c)] at ih; rw [Int32.add_zero]; exact ih
    · rw [sm_1 (if_neg c)] at ih; exact ih
end SUMS
