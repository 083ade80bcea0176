section BEY
variable {E : gp_E} {N : Nat → Nat} {S : gp_S} {X Y : gp_H}
def bc : Nat → Nat → Nat
  | _, 0 => 1
  | 0, _ + 1 => 0
  | n + 1, k + 1 => bc n k + bc n (k + 1)
theorem bc_z (n : Nat) : bc n 0 = 1 := by cases n <;> rfl
theorem bc_s (n k : Nat) : bc (n + 1) (k + 1) = bc n k + bc n (k + 1) := rfl
theorem bc_0 : ∀ (n k : Nat), n < k → bc n k = 0
  | 0, k + 1, _ => rfl
  | n + 1, k + 1, h => by rw [bc_s, bc_0 n k (by omega), bc_0 n (k + 1) (by omega)]
theorem bc_le : ∀ (n k : Nat), bc n k ≤ 2 ^ n
  | n, 0 => by rw [bc_z]; exact Nat.one_le_two_pow
  | 0, k + 1 => Nat.zero_le _
  | n + 1, k + 1 => by
    have := bc_le n k
    have := bc_le n (k + 1)
    rw [bc_s, Nat.pow_succ]
    omega
theorem bc_mul : ∀ (n k : Nat), bc (n + 1) (k + 1) * (k + 1) = (n + 1) * bc n k
  | 0, 0 => rfl
  | 0, k + 1 => by
    have e1 : bc (0 + 1) (k + 1 + 1) = 0 := bc_0 _ _ (by omega)
    have e2 : bc 0 (k + 1) = 0 := rfl
    rw [e1, e2, Nat.zero_mul, Nat.mul_zero]
  | n + 1, 0 => by
    have := bc_mul n 0
    rw [bc_z] at this ⊢
    rw [bc_s (n + 1) 0, bc_z]
    omega
  | n + 1, k + 1 => by
    have i1 := bc_mul n k
    have i2 := bc_mul n (k + 1)
    have e1 : bc (n + 1 + 1) (k + 1 + 1) = bc (n + 1) (k + 1) + bc (n + 1) (k + 1 + 1) := rfl
    rw [e1, Nat.add_mul, i2, Nat.mul_add (bc (n + 1) (k + 1)) (k + 1) 1, i1, Nat.add_mul (n + 1) 1 (bc (n + 1) (k + 1)), bc_s n k, Nat.mul_add (n + 1)]
    omega
theorem s_choose (lY : Lay S Y) {a b : Nat} (ha : a ≤ 40) (hb : b ≤ 40) : Ev E m_ga_choose 0 [(0, .int (nI a)), (1, .int (nI b))] [] Y (0, 0) (gp_q (some (.long (lN (bc a b)))) Y) := by
  refine b_ga_choose_0 lY ⟨fun z => absurd z ?_, fun _ => ⟨fun z => ?_, fun z => ?_⟩⟩
  · rw [show (0 : Int32) = nI 0 from rfl, nI_ltI (by omega) (by omega)]; omega
  · rw [nI_leI (by omega) (by omega)] at z
    have go : ∀ d k, d + k = b → Ev E m_ga_choose 16 [(0, .int (nI a)), (1, .int (nI b)), (2, .long (lN (bc (a - b + k) k))), (4, .int (nI (k + 1)))] [] Y (0, 0) (gp_q (some (.long (lN (bc a b)))) Y) := by
      intro d
      induction d with
      | zero =>
        intro k e
        obtain rfl : k = b := by omega
        refine b_ga_choose_16 lY ⟨fun _ => ⟨?_, rfl⟩, fun z => absurd (nI_ltt (by omega) (by omega)) z⟩
        rw [show a - k + k = a by omega]
      | succ d ih =>
        intro k e
        refine b_ga_choose_16 lY ⟨fun z => absurd z (by rw [nI_ltI (by omega) (by omega)]; omega), fun _ => ?_⟩
        rw [pk_sub z, nI_add, nI_l (by omega), nI_l (by omega), lN_mul, nI_s]
        have h1 := bc_le (a - b + k) k
        have h2 : 2 ^ (a - b + k) ≤ 2 ^ 40 := Nat.pow_le_pow_right (by omega) (by omega)
        have h3 : bc (a - b + k) k * (a - b + (k + 1)) ≤ 2 ^ 40 * 40 := Nat.mul_le_mul (by omega) (by omega)
        rw [pk_lDiv (by omega) (by omega) (by omega)]
        have h4 : bc (a - b + k) k * (a - b + (k + 1)) / (k + 1) = bc (a - b + (k + 1)) (k + 1) := by
          rw [show a - b + (k + 1) = a - b + k + 1 from rfl, Nat.mul_comm, ← bc_mul (a - b + k) k, Nat.mul_div_cancel _ (by omega)]
        rw [h4]
        exact ⟨fun z => by
          have := (pk_lEQ (a := k + 1) (b := 0) (by omega) (by omega)).mp z
          omega, ih (k + 1) (by omega)⟩
    have := go b 0 (by omega)
    rw [bc_z] at this
    exact this
  · rw [nI_leI (by omega) (by omega)] at z
    rw [bc_0 a b (by omega)]
    exact ⟨rfl, rfl⟩
def Tb (x y : Nat) (Y : gp_H) : Prop := ∀ x' y', y' ≤ 40 → (x' < x ∨ x' = x ∧ y' < y) → gL Y 109 (41 * x' + y') = lN (bc x' y')
theorem tb_w {x y : Nat} (hy : y ≤ 40) (h : Tb x y Y) {v : Int64} (hv : v = lN (bc x y)) : Tb x (y + 1) (gp_sL Y 109 (41 * x + y) v) := fun x' y' h1 h2 => by
  show (if 109 = 109 ∧ 41 * x' + y' = 41 * x + y then v else gL Y 109 (41 * x' + y')) = _
  by_cases z : x' = x ∧ y' = y
  · rw [if_pos (by omega), hv, z.1, z.2]
  · rw [if_neg (by omega)]
    exact h x' y' h1 (by omega)
theorem s_reckons (lY : Lay S Y) : Ev E m_mo_reckons 0 [(0, .ref 55)] [] Y (0, 0) (fun r Y' => r = none ∧ Lay S Y' ∧ (∀ a k, gI Y' a k = gI Y a k) ∧ Tb 41 0 Y') := by
  have inn : ∀ (x : Nat), x ≤ 40 → ∀ (Q : Option Value → gp_H → Prop), (∀ Y2, Lay S Y2 → (∀ a k, gI Y2 a k = gI Y a k) → Tb (x + 1) 0 Y2 → Ev E m_mo_reckons 2 [(0, .ref 55), (1, .int (nI (x + 1)))] [] Y2 (0, 0) Q) → ∀ d y (Y1 : gp_H), d + y = 41 → Lay S Y1 → (∀ a k, gI Y1 a k = gI Y a k) → Tb x y Y1 → Ev E m_mo_reckons 10 [(0, .ref 55), (1, .int (nI x)), (2, .int (nI y))] [] Y1 (0, 0) Q := by
    intro x hx Q g d
    induction d with
    | zero =>
      intro y Y1 e l1 e1 t1
      obtain rfl : y = 41 := by omega
      refine b_mo_reckons_10 l1 ⟨fun _ => ?_, fun z => absurd (by decide) z⟩
      rw [nI_s]
      exact g Y1 l1 e1 (fun x' y' h1 h2 => t1 x' y' h1 (by omega))
    | succ d ih =>
      intro y Y1 e l1 e1 t1
      have e41 : (41 : Int32) * nI x + nI y = nI (41 * x + y) := by rw [show (41 : Int32) = nI 41 from rfl, pk_mul, nI_add]
      have vi : vp_in (nI (41 * x + y)) 1681 := vin (by omega) (by omega)
      refine b_mo_reckons_10 l1 ⟨fun z => absurd z (by rw [show (40 : Int32) = nI 40 from rfl, nI_ltI (by omega) (by omega)]; omega), fun _ => ⟨fun z1 => ⟨fun z2 => ?_, fun z2 => ?_⟩, fun z1 => ?_⟩⟩
      · have hx0 : 0 < x := Nat.pos_of_ne_zero (fun y0 => z2 (by rw [y0]; rfl))
        have hy0 : 0 < y := Nat.pos_of_ne_zero (fun y0 => z1 (by rw [y0]; rfl))
        have e0 : (41 : Int32) * nI x - 41 + nI y = nI (41 * x - 41 + y) := by rw [show (41 : Int32) = nI 41 from rfl, pk_mul, pk_sub (by omega), nI_add]
        have e00 : (41 : Int32) * nI x - 41 + nI y - 1 = nI (41 * x - 41 + y - 1) := by rw [e0, nI_1', pk_sub (by omega)]
        rw [e00, e0, e41, nI_c (k := 41 * x - 41 + y - 1) (by omega), nI_c (k := 41 * x - 41 + y) (by omega), nI_c (k := 41 * x + y) (by omega), nI_s]
        refine ⟨vin (by omega) (by omega), vin (by omega) (by omega), vi, ih (y + 1) _ (by omega) (ly_sL l1) e1 (tb_w (by omega) t1 ?_)⟩
        have a1 := t1 (x - 1) (y - 1) (by omega) (by omega)
        have a2 := t1 (x - 1) y (by omega) (by omega)
        rw [show 41 * (x - 1) + (y - 1) = 41 * x - 41 + y - 1 by omega] at a1
        rw [show 41 * (x - 1) + y = 41 * x - 41 + y by omega] at a2
        rw [a1, a2, lN_add]
        obtain ⟨x', rfl⟩ : ∃ x', x = x' + 1 := ⟨x - 1, by omega⟩
        obtain ⟨y', rfl⟩ : ∃ y', y = y' + 1 := ⟨y - 1, by omega⟩
        rfl
      · rw [e41, nI_c (k := 41 * x + y) (by omega), nI_s]
        refine ⟨vi, ih (y + 1) _ (by omega) (ly_sL l1) e1 (tb_w (by omega) t1 ?_)⟩
        have hx0 : x = 0 := (nI_eq (b := 0) (by omega) (by omega)).mp z2
        have hy0 : 0 < y := Nat.pos_of_ne_zero (fun y0 => z1 (by rw [y0]; rfl))
        rw [hx0, bc_0 0 y (by omega)]
        rfl
      · rw [e41, nI_c (k := 41 * x + y) (by omega), nI_s]
        refine ⟨vi, ih (y + 1) _ (by omega) (ly_sL l1) e1 (tb_w (by omega) t1 ?_)⟩
        have hy0 : y = 0 := (nI_eq (b := 0) (by omega) (by omega)).mp z1
        rw [hy0, bc_z]
        rfl
  have out : ∀ d x (Y1 : gp_H), d + x = 41 → Lay S Y1 → (∀ a k, gI Y1 a k = gI Y a k) → Tb x 0 Y1 → Ev E m_mo_reckons 2 [(0, .ref 55), (1, .int (nI x))] [] Y1 (0, 0) (fun r Y' => r = none ∧ Lay S Y' ∧ (∀ a k, gI Y' a k = gI Y a k) ∧ Tb 41 0 Y') := by
    intro d
    induction d with
    | zero =>
      intro x Y1 e l1 e1 t1
      obtain rfl : x = 41 := by omega
      exact b_mo_reckons_2 l1 ⟨fun _ => ⟨rfl, l1, e1, t1⟩, fun z => absurd (by decide) z⟩
    | succ d ih =>
      intro x Y1 e l1 e1 t1
      refine b_mo_reckons_2 l1 ⟨fun z => absurd z (by rw [show (40 : Int32) = nI 40 from rfl, nI_ltI (by omega) (by omega)]; omega), fun _ => inn x (by omega) _ (fun Y2 l2 e2 t2 => ih (x + 1) Y2 (by omega) l2 e2 t2) 41 0 Y1 rfl l1 e1 t1⟩
  exact b_mo_reckons_0 lY (out 41 0 Y rfl lY (fun _ _ => rfl) (fun x' y' h1 h2 => by omega))
/-- how many -/
def cn (p : Nat → Bool) : Nat → Nat
  | 0 => 0
  | n + 1 => cn p n + if p n = true then 1 else 0
theorem cn_s (p : Nat → Bool) (k : Nat) : nI (cn p k) + bz (p k) = nI (cn p (k + 1)) := by
  show _ = nI (cn p k + if p k = true then 1 else 0)
  cases p k with
  | true => exact nI_s _
  | false => exact Int32.add_zero _
theorem cn_le (p : Nat → Bool) : ∀ n, cn p n ≤ n
  | 0 => Nat.le_refl _
  | n + 1 => by
    have := cn_le p n
    show cn p n + (if p n = true then 1 else 0) ≤ n + 1
    split <;> omega
theorem cn_m {p q : Nat → Bool} (h : ∀ j, p j = true → q j = true) : ∀ n, cn p n ≤ cn q n
  | 0 => Nat.le_refl _
  | n + 1 => by
    have := cn_m h n
    show cn p n + (if p n = true then 1 else 0) ≤ cn q n + (if q n = true then 1 else 0)
    by_cases z : p n = true
    · rw [if_pos z, if_pos (h n z)]; omega
    · rw [if_neg z]; omega
def cA (X : gp_H) (j : Nat) : Bool := decide (gI X 74 j = 1)
def cB (X : gp_H) (j : Nat) : Bool := !decide (gI X 78 j = 0)
def cM (X : gp_H) (m : Nat) (j : Nat) : Bool := decide (gI X 73 j = nI m)
def cC (X : gp_H) (m : Nat) (j : Nat) : Bool := cA X j && cM X m j
def cD (X : gp_H) (m : Nat) (j : Nat) : Bool := cB X j && cM X m j
def acF (a b c : Nat) : Nat → Nat → Int64 → Int64
  | 0, _, w => w
  | f + 1, k, w => if k ≤ c ∧ k ≤ b then acF a b c f (k + 1) (w + lN (bc c k) * lN (bc (a - c) (b - k))) else w
theorem bzf_ {t : Int32} {b : Bool} (h : t = bz b) (z : t = 0) : b = false := by
  cases b with
  | false => rfl
  | true => rw [h] at z; exact absurd z (by decide)
theorem bzt_ {t : Int32} {b : Bool} (h : t = bz b) (z : ¬ t = 0) : b = true := by
  cases b with
  | true => rfl
  | false => exact absurd h z
theorem by_c (h : Inv N S X) {m : Nat} {x2 : Int32} {Q : Option Value → gp_H → Prop} (g : Ev E m_ga_beyond 38 [(0, .ref 0), (1, .int (nI m)), (2, .int x2), (3, .int (nI (cn (cA X) S.1))), (4, .int (nI (cn (cB X) S.1))), (5, .int (nI (cn (cC X m) S.1))), (6, .int (nI (cn (cD X m) S.1))), (7, .int (nI S.1))] [] X (0, 0) Q) : Ev E m_ga_beyond 38 [(0, .ref 0), (1, .int (nI m)), (2, .int x2), (3, .int 0), (4, .int 0), (5, .int 0), (6, .int 0), (7, .int 0)] [] X (0, 0) Q := by
  have hL := h.lay
  have l := l40 hL
  refine dn (P := fun k => Ev E m_ga_beyond 38 [(0, .ref 0), (1, .int (nI m)), (2, .int x2), (3, .int (nI (cn (cA X) k))), (4, .int (nI (cn (cB X) k))), (5, .int (nI (cn (cC X m) k))), (6, .int (nI (cn (cD X m) k))), (7, .int (nI k))] [] X (0, 0) Q) (n := S.1) g ?_
  intro k hk ih
  have vk : vp_in (nI k) 40 := vin (by omega) (by omega)
  have ck : Int32.toNatClampNeg (nI k) = k := nI_c (by omega)
  have lh := hL.2.2.2.2.1 k hk
  obtain ⟨⟨a0, a1, a2, a3, a4, a5, a6, a7, a8⟩, b1, b2, b3, b4⟩ := h.hom.2 k hk
  obtain ⟨q1, q2, -, -, -, q5⟩ := tf_mod h hk
  obtain ⟨r1, r2, r3⟩ := md_at hL q1
  obtain ⟨⟨m1, -⟩, -⟩ := h.mod.2 _ q1
  rw [← cn_s (cA X) k, ← cn_s (cB X) k, ← cn_s (cC X m) k, ← cn_s (cD X m) k] at ih
  refine b_ga_beyond_38 hL ⟨fun z => absurd z (by rw [h.hom.1.1]; exact nI_nge hk (by omega)), fun _ => ⟨vk, ?_⟩⟩
  rw [ck]
  refine ⟨_, lh.1, lh.2.1, ?_⟩
  rw [a4, nI_s]
  refine ⟨fun z1 => ⟨vk, _, lh.1, lh.2.1, _, _, lh.2.2.2.1, r2, r3, ?_⟩, fun z1 => ?_⟩
  · have eA : cA X k = true := decide_eq_true z1
    have s86 : ∀ t : Int32, t = bz (cM X m k) → Ev E m_ga_beyond 86 [(0, .ref 0), (1, .int (nI m)), (2, .int x2), (3, .int (nI (cn (cA X) k))), (4, .int (nI (cn (cB X) k))), (5, .int (nI (cn (cC X m) k))), (6, .int (nI (cn (cD X m) k))), (7, .int (nI k))] [.int t] X (0, 0) Q := fun t et => by
      have eC : bz (!decide (t = 0)) = bz (cC X m k) := by
        unfold cC
        rw [eA, Bool.true_and]
        cases z : cM X m k with
        | true => rw [z] at et; rw [et]; rfl
        | false => rw [z] at et; rw [et]; rfl
      rw [eA] at ih
      refine b_ga_beyond_86 hL ⟨vk, ?_⟩
      rw [ck]
      refine ⟨_, lh.1, lh.2.1, ?_⟩
      rw [a8, eC]
      have s144 : ∀ u : Int32, bz (!decide (u = 0)) = bz (cD X m k) → Ev E m_ga_beyond 144 [(0, .ref 0), (1, .int (nI m)), (2, .int x2), (3, .int (nI (cn (cA X) k) + 1)), (4, .int (nI (cn (cB X) k) + bz (!decide (gI X 78 k = 0)))), (5, .int (nI (cn (cC X m) k) + bz (cC X m k))), (6, .int (nI (cn (cD X m) k))), (7, .int (nI k)), (8, .int t)] [.int u, .int (nI (cn (cD X m) k))] X (0, 0) Q := fun u eu => by
        refine b_ga_beyond_144 hL ?_
        rw [eu, nI_s k]
        exact ih
      refine ⟨fun z => b_ga_beyond_143 hL (s144 0 ?_), fun z => ⟨vk, _, lh.1, lh.2.1, ?_⟩⟩
      · unfold cD; rw [bzf_ et z, Bool.and_false]; rfl
      · rw [a8]
        refine ⟨fun z2 => b_ga_beyond_143 hL (s144 0 ?_), fun z2 => s144 1 ?_⟩
        · unfold cD cB; rw [decide_eq_true z2]; rfl
        · unfold cD cB; rw [decide_eq_false z2, bzt_ et z]; rfl
    rw [m1]
    have em : nI (S.2.2.2.2.2 k) = gI X 73 k := q5.symm
    rw [em]
    exact ⟨fun z => s86 0 (by unfold cM; rw [decide_eq_false z]; rfl), fun z => s86 1 (by unfold cM; rw [decide_eq_true z]; rfl)⟩
  · have f0 : gI X 78 k = 0 := b3.resolve_right (fun z => z1 (b4 z))
    have eA : cA X k = false := decide_eq_false z1
    have eB : cB X k = false := by unfold cB; rw [decide_eq_true f0]; rfl
    have eC : cC X m k = false := by unfold cC; rw [eA]; rfl
    have eD : cD X m k = false := by unfold cD; rw [eB]; rfl
    rw [eA, eB, eC, eD] at ih
    simp only [bz, Bool.false_eq_true, ite_false, Int32.add_zero] at ih
    exact ih
theorem by_r (h : Inv N S X) (lY : Lay S Y) (c : ∀ a k, gI Y a k = gI X a k) {m : Nat} {x2 : Int32} {Q : Option Value → gp_H → Prop} (g : Ev E m_mo_beyond 38 [(0, .ref 55), (1, .int (nI m)), (2, .int x2), (3, .int (nI (cn (cC X m) S.1))), (4, .int (nI (cn (cD X m) S.1))), (5, .int (nI (cn (cA X) S.1))), (6, .int (nI (cn (cB X) S.1))), (7, .int (nI S.1))] [] Y (0, 0) Q) : Ev E m_mo_beyond 38 [(0, .ref 55), (1, .int (nI m)), (2, .int x2), (3, .int 0), (4, .int 0), (5, .int 0), (6, .int 0), (7, .int 0)] [] Y (0, 0) Q := by
  have l := l40 lY
  refine dn (P := fun k => Ev E m_mo_beyond 38 [(0, .ref 55), (1, .int (nI m)), (2, .int x2), (3, .int (nI (cn (cC X m) k))), (4, .int (nI (cn (cD X m) k))), (5, .int (nI (cn (cA X) k))), (6, .int (nI (cn (cB X) k))), (7, .int (nI k))] [] Y (0, 0) Q) (n := S.1) g ?_
  intro k hk ih
  have vk : vp_in (nI k) 40 := vin (by omega) (by omega)
  have ck : Int32.toNatClampNeg (nI k) = k := nI_c (by omega)
  rw [← cn_s (cA X) k, ← cn_s (cB X) k, ← cn_s (cC X m) k, ← cn_s (cD X m) k] at ih
  generalize nI (cn (cA X) k) = x5 at ih ⊢
  generalize nI (cn (cB X) k) = x6 at ih ⊢
  generalize nI (cn (cC X m) k) = x3 at ih ⊢
  generalize nI (cn (cD X m) k) = x4 at ih ⊢
  have h128 : ∀ t u : Int32, t = bz (cM X m k) → u = bz (cC X m k) → Ev E m_mo_beyond 128 [(0, .ref 55), (1, .int (nI m)), (2, .int x2), (3, .int x3), (4, .int x4), (5, .int (x5 + bz (cA X k))), (6, .int (x6 + bz (cB X k))), (7, .int (nI k)), (8, .int t)] [.int u, .int x3] Y (0, 0) Q := fun t u et eu => by
    refine b_mo_beyond_128 lY ⟨vk, ?_⟩
    rw [ck, c, eu, nI_s]
    have no : cD X m k = false → Ev E m_mo_beyond 151 [(0, .ref 55), (1, .int (nI m)), (2, .int x2), (3, .int (x3 + bz (cC X m k))), (4, .int x4), (5, .int (x5 + bz (cA X k))), (6, .int (x6 + bz (cB X k))), (7, .int (nI k)), (8, .int t)] [.int x4] Y (0, 0) Q := fun z => by
      refine b_mo_beyond_151 lY ?_
      rw [nI_s]
      rw [z] at ih
      exact ih
    refine ⟨fun z => no (by unfold cD cB; rw [decide_eq_true z]; rfl), fun z => ⟨fun z2 => no (by unfold cD; rw [bzf_ et z2, Bool.and_false]), fun z2 => ?_⟩⟩
    have eD : cD X m k = true := by unfold cD cB; rw [decide_eq_false z, bzt_ et z2]; rfl
    rw [eD] at ih
    exact ih
  have h103 : ∀ t u : Int32, t = bz (cM X m k) → u = bz (cB X k) → Ev E m_mo_beyond 103 [(0, .ref 55), (1, .int (nI m)), (2, .int x2), (3, .int x3), (4, .int x4), (5, .int (x5 + bz (cA X k))), (6, .int x6), (7, .int (nI k)), (8, .int t)] [.int u, .int x6] Y (0, 0) Q := fun t u et eu => by
    refine b_mo_beyond_103 lY ⟨vk, ?_⟩
    rw [ck, c, eu]
    refine ⟨fun z => b_mo_beyond_127 lY (h128 t 0 et ?_), fun z => ⟨fun z2 => b_mo_beyond_127 lY (h128 t 0 et ?_), fun z2 => h128 t 1 et ?_⟩⟩
    · unfold cC cA; rw [decide_eq_false z]; rfl
    · unfold cC; rw [bzf_ et z2, Bool.and_false]; rfl
    · unfold cC cA; rw [decide_eq_true z, bzt_ et z2]; rfl
  have h83 : ∀ t u : Int32, t = bz (cM X m k) → u = bz (cA X k) → Ev E m_mo_beyond 83 [(0, .ref 55), (1, .int (nI m)), (2, .int x2), (3, .int x3), (4, .int x4), (5, .int x5), (6, .int x6), (7, .int (nI k)), (8, .int t)] [.int u, .int x5] Y (0, 0) Q := fun t u et eu => by
    refine b_mo_beyond_83 lY ⟨vk, ?_⟩
    rw [ck, c, eu]
    exact ⟨fun z => h103 t 0 et (by unfold cB; rw [decide_eq_true z]; rfl), fun z => h103 t 1 et (by unfold cB; rw [decide_eq_false z]; rfl)⟩
  have h63 : ∀ t : Int32, t = bz (cM X m k) → Ev E m_mo_beyond 63 [(0, .ref 55), (1, .int (nI m)), (2, .int x2), (3, .int x3), (4, .int x4), (5, .int x5), (6, .int x6), (7, .int (nI k))] [.int t] Y (0, 0) Q := fun t et => by
    refine b_mo_beyond_63 lY ⟨vk, ?_⟩
    rw [ck, c]
    exact ⟨fun z => h83 t 0 et (by unfold cA; rw [decide_eq_false z]; rfl), fun z => h83 t 1 et (by unfold cA; rw [decide_eq_true z]; rfl)⟩
  refine b_mo_beyond_38 lY ⟨fun z => absurd z (by rw [c, h.hom.1.2]; exact nI_nge hk (by omega)), fun _ => ⟨vk, ?_⟩⟩
  rw [ck, c]
  exact ⟨fun z => h63 0 (by unfold cM; rw [decide_eq_false z]; rfl), fun z => h63 1 (by unfold cM; rw [decide_eq_true z]; rfl)⟩
theorem ac_c (lY : Lay S Y) {x1 x2 x6 : Int32} {a b c : Nat} (ha : a ≤ 40) (hb : b ≤ 40) (hc : c ≤ a) {Q : Option Value → gp_H → Prop} : ∀ (f k : Nat) (w : Int64), f + k = c + 1 → (∀ x9 : Int32, Ev E m_ga_beyond 208 [(0, .ref 0), (1, .int x1), (2, .int x2), (3, .int (nI a)), (4, .int (nI b)), (5, .int (nI c)), (6, .int x6), (7, .long (acF a b c f k w)), (9, .int x9)] [] Y (0, 0) Q) → Ev E m_ga_beyond 163 [(0, .ref 0), (1, .int x1), (2, .int x2), (3, .int (nI a)), (4, .int (nI b)), (5, .int (nI c)), (6, .int x6), (7, .long w), (9, .int (nI k))] [] Y (0, 0) Q
  | 0, k, w, e, g => by
    refine b_ga_beyond_163 lY ⟨fun _ => g _, fun z => absurd (nI_ltt (by omega) (by omega)) z⟩
  | f + 1, k, w, e, g => by
    refine b_ga_beyond_163 lY ⟨fun z => absurd z (by rw [nI_ltI (by omega) (by omega)]; omega), fun _ => ⟨fun z => ?_, fun z => ?_⟩⟩
    · rw [nI_ltI (by omega) (by omega)] at z
      have : acF a b c (f + 1) k w = w := if_neg (by omega)
      rw [this] at g
      exact g _
    · rw [nI_ltI (by omega) (by omega)] at z
      have : acF a b c (f + 1) k w = acF a b c f (k + 1) (w + lN (bc c k) * lN (bc (a - c) (b - k))) := if_pos (by omega)
      rw [this] at g
      refine ⟨_, s_choose lY (a := c) (b := k) (by omega) (by omega), fun r Y1 hq => ?_⟩
      obtain ⟨rfl, rfl⟩ := hq
      rw [pk_sub hc, pk_sub (by omega), nI_s]
      refine ⟨_, rfl, lY, _, s_choose lY (a := a - c) (b := b - k) (by omega) (by omega), fun r Y1 hq => ?_⟩
      obtain ⟨rfl, rfl⟩ := hq
      exact ⟨_, rfl, lY, ac_c lY ha hb hc f (k + 1) _ (by omega) g⟩
theorem ac_r (lY : Lay S Y) (t : Tb 41 0 Y) {x1 x2 x4 : Int32} {a b c : Nat} (ha : a ≤ 40) (hb : b ≤ 40) (hc : c ≤ a) {Q : Option Value → gp_H → Prop} : ∀ (f k : Nat) (w : Int64), f + k = c + 1 → (∀ x9 : Int32, Ev E m_mo_beyond 227 [(0, .ref 55), (1, .int x1), (2, .int x2), (3, .int (nI c)), (4, .int x4), (5, .int (nI a)), (6, .int (nI b)), (7, .long (acF a b c f k w)), (9, .int x9)] [] Y (0, 0) Q) → Ev E m_mo_beyond 172 [(0, .ref 55), (1, .int x1), (2, .int x2), (3, .int (nI c)), (4, .int x4), (5, .int (nI a)), (6, .int (nI b)), (7, .long w), (9, .int (nI k))] [] Y (0, 0) Q
  | 0, k, w, e, g => by
    refine b_mo_beyond_172 lY ⟨fun _ => g _, fun z => absurd (nI_ltt (by omega) (by omega)) z⟩
  | f + 1, k, w, e, g => by
    refine b_mo_beyond_172 lY ⟨fun z => absurd z (by rw [nI_ltI (by omega) (by omega)]; omega), fun _ => ⟨fun z => ?_, fun z => ?_⟩⟩
    · rw [nI_ltI (by omega) (by omega)] at z
      have : acF a b c (f + 1) k w = w := if_neg (by omega)
      rw [this] at g
      exact g _
    · rw [nI_ltI (by omega) (by omega)] at z
      have : acF a b c (f + 1) k w = acF a b c f (k + 1) (w + lN (bc c k) * lN (bc (a - c) (b - k))) := if_pos (by omega)
      rw [this] at g
      have e1 : (41 : Int32) * nI c + nI k = nI (41 * c + k) := by rw [show (41 : Int32) = nI 41 from rfl, pk_mul, nI_add]
      have e2 : (41 : Int32) * (nI a - nI c) + nI b - nI k = nI (41 * (a - c) + (b - k)) := by
        rw [pk_sub hc, show (41 : Int32) = nI 41 from rfl, pk_mul, nI_add, pk_sub (by omega)]
        congr 1
        omega
      rw [e1, e2, nI_c (k := 41 * c + k) (by omega), nI_c (k := 41 * (a - c) + (b - k)) (by omega), nI_s]
      refine ⟨vin (by omega) (by omega), vin (by omega) (by omega), ?_⟩
      have t1 := t c k (by omega) (by omega)
      have t2 := t (a - c) (b - k) (by omega) (by omega)
      have := ac_r lY t ha hb hc f (k + 1) _ (by omega) g
      rw [← t1, ← t2] at this
      exact this
end BEY
theorem p_beyond {E : gp_E} {N : Nat → Nat} {S : gp_S} {X : gp_H} (h : Inv N S X) (x1 x2 : Int32) : Ev E m_ga_beyond 0 [(0, .ref 0), (1, .int x1), (2, .int x2)] [] X (0, 0) (gp_two E m_mo_beyond [(0, .ref 55), (1, .int x1), (2, .int x2)]) := by
  have hL := h.lay
  have l := l40 hL
  have l2 := l12 hL
  have R := fun {Y : gp_H} (lY : Lay S Y) (gY : Rf X Y) {Q} => show _ from by
    have := b_mo_beyond_0 (E := E) (x1 := x1) (x2 := x2) (Q := Q) lY
    rw [gY 55 13 rfl, h.mod.1.2] at this
    exact this
  refine b_ga_beyond_0 hL (wh_model h (fun m hm e => ?_) (fun c1 => ⟨_, S, rfl, hL, R hL (rf_0 X) ⟨fun z => bnf c1 z, fun _ => ⟨rfl, N, h⟩⟩⟩))
  subst e
  have c1 := iw_of hm (show S.2.1 ≤ 100000 by omega)
  refine ⟨fun c2 => by_c h ?_, fun c2 => ⟨_, S, rfl, hL, R hL (rf_0 X) ⟨fun _ => ⟨fun z => bnf c2 z, fun _ => ⟨rfl, N, h⟩⟩, fun z => bne c1 z⟩⟩⟩
  have ha : cn (cA X) S.1 ≤ 40 := Nat.le_trans (cn_le _ _) l
  have hb : cn (cB X) S.1 ≤ 40 := Nat.le_trans (cn_le _ _) l
  have hc : cn (cC X m) S.1 ≤ cn (cA X) S.1 := cn_m (fun j z => by unfold cC at z; exact (Bool.and_eq_true _ _ ▸ z).1) _
  have hBA : ∀ j, j < S.1 → cB X j = true → cA X j = true := fun j hj z => by
    obtain ⟨-, -, -, b3, b4⟩ := h.hom.2 j hj
    unfold cB at z
    unfold cA
    have z' : ¬ gI X 78 j = 0 := fun y => by rw [decide_eq_true y] at z; exact absurd z (by decide)
    exact decide_eq_true (b4 (b3.resolve_left z'))
  have hd : ∀ n, n ≤ S.1 → cn (cD X m) n ≤ cn (cC X m) n := by
    intro n
    induction n with
    | zero => intro _; exact Nat.le_refl _
    | succ n ih =>
      intro hn
      have := ih (by omega)
      show cn (cD X m) n + (if cD X m n = true then 1 else 0) ≤ cn (cC X m) n + (if cC X m n = true then 1 else 0)
      by_cases z : cD X m n = true
      · have z2 : cC X m n = true := by
          unfold cD at z
          unfold cC
          rw [Bool.and_eq_true] at z ⊢
          exact ⟨hBA n (by omega) z.1, z.2⟩
        rw [if_pos z, if_pos z2]; omega
      · rw [if_neg z]; omega
  have hd := hd S.1 (Nat.le_refl _)
  have fin : ∀ V : Int32, (0 ≤ lg_cmp (acF (cn (cA X) S.1) (cn (cB X) S.1) (cn (cC X m) S.1) (cn (cC X m) S.1 + 1 - cn (cD X m) S.1) (cn (cD X m) S.1) 0 * 10000) (Int32.toInt64 x2 * lN (bc (cn (cA X) S.1) (cn (cB X) S.1))) → V = 0) → (¬ 0 ≤ lg_cmp (acF (cn (cA X) S.1) (cn (cB X) S.1) (cn (cC X m) S.1) (cn (cC X m) S.1 + 1 - cn (cD X m) S.1) (cn (cD X m) S.1) 0 * 10000) (Int32.toInt64 x2 * lN (bc (cn (cA X) S.1) (cn (cB X) S.1))) → V = 1) → gp_two E m_mo_beyond [(0, .ref 55), (1, .int (nI m)), (2, .int x2)] (some (.int V)) X := fun V v0 v1 => by
    refine ⟨V, S, rfl, hL, R hL (rf_0 X) ⟨fun _ => ⟨fun _ => by_r h hL (fun _ _ => rfl) ?_, fun z => bne c2 z⟩, fun z => bne c1 z⟩⟩
    refine b_mo_beyond_38 hL ⟨fun _ => ⟨_, s_reckons hL, fun r Y ⟨y1, y2, y3, y4⟩ => ⟨y1, y2, ?_⟩⟩, fun z => absurd (by rw [h.hom.1.2]; exact Int32.le_refl _) z⟩
    refine ac_r y2 y4 ha hb hc (cn (cC X m) S.1 + 1 - cn (cD X m) S.1) (cn (cD X m) S.1) 0 (by omega) (fun x9 => ?_)
    have e1 : (41 : Int32) * nI (cn (cA X) S.1) + nI (cn (cB X) S.1) = nI (41 * cn (cA X) S.1 + cn (cB X) S.1) := by rw [show (41 : Int32) = nI 41 from rfl, pk_mul, nI_add]
    have t1 := y4 (cn (cA X) S.1) (cn (cB X) S.1) (by omega) (by omega)
    refine b_mo_beyond_227 y2 ?_
    rw [e1, nI_c (k := 41 * cn (cA X) S.1 + cn (cB X) S.1) (by omega), t1]
    exact ⟨vin (by omega) (by omega), fun z => ⟨by rw [v0 z], N, inv_ext h y2 y3⟩, fun z => ⟨by rw [v1 z], N, inv_ext h y2 y3⟩⟩
  refine b_ga_beyond_38 hL ⟨fun _ => ?_, fun z => absurd (by rw [h.hom.1.1]; exact Int32.le_refl _) z⟩
  refine ac_c hL ha hb hc (cn (cC X m) S.1 + 1 - cn (cD X m) S.1) (cn (cD X m) S.1) 0 (by omega) (fun x9 => ?_)
  refine b_ga_beyond_208 hL ⟨_, s_choose hL ha hb, fun r Y1 hq => ?_⟩
  obtain ⟨rfl, rfl⟩ := hq
  exact ⟨_, rfl, hL, fun z => fin _ (fun _ => rfl) (fun y => absurd z y), fun z => fin _ (fun y => absurd y z) (fun _ => rfl)⟩
