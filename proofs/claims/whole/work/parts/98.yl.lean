section BST
variable {E : gp_E} {N : Nat → Nat} {S : gp_S} {X Y : gp_H}
theorem or_nI {a b : Nat} (ha : a < 2 ^ 32) (hb : b < 2 ^ 32) : nI a ||| nI b = nI (a ||| b) := b_ext (fun i _ => by
  rw [b_or, bt_nI ha, bt_nI hb, bt_nI (Nat.or_lt_two_pow ha hb), Nat.testBit_or])
theorem and_nI {a b : Nat} (ha : a < 2 ^ 32) (hb : b < 2 ^ 32) : nI a &&& nI b = nI (a &&& b) := b_ext (fun i _ => by
  rw [b_and, bt_nI ha, bt_nI hb, bt_nI (Nat.lt_of_le_of_lt Nat.and_le_left ha), Nat.testBit_and])
theorem shl_nI {s : Nat} (hs : s < 7) : (1 : Int32) <<< (nI s &&& 31) = nI (2 ^ s) := by
  have : ∀ s, s < 7 → (1 : Int32) <<< (nI s &&& 31) = nI (2 ^ s) := by decide
  exact this s hs
theorem w_lt {n w s : Nat} (hn : n ≤ 7) (hw : w < 2 ^ n) (hs : s < n) : w ||| 2 ^ s < 2 ^ n := Nat.or_lt_two_pow hw (Nat.pow_lt_pow_right (by omega) hs)
theorem p128 {n : Nat} (hn : n ≤ 7) : 2 ^ n ≤ 128 := (Nat.pow_le_pow_right (by omega) hn : 2 ^ n ≤ 2 ^ 7)
theorem w_or {n w s : Nat} (hn : n ≤ 7) (hw : w < 2 ^ n) (hs : s < n) : nI w ||| ((1 : Int32) <<< (nI s &&& 31)) = nI (w ||| 2 ^ s) := by
  have := p128 hn
  have : 2 ^ s < 2 ^ n := Nat.pow_lt_pow_right (by omega) hs
  rw [shl_nI (by omega), or_nI (by omega) (by omega)]
theorem w_tab : ∀ w, w < 128 → ∀ s, s < 7 → (gb (nI w) (nI s) = w.testBit s ∧ (w.testBit s = true → w ||| 2 ^ s = w) ∧ (w.testBit s = false → w < w ||| 2 ^ s)) := by decide +kernel
def pc (w : Nat) : Nat := w % 2 + w / 2 % 2 + w / 4 % 2 + w / 8 % 2 + w / 16 % 2 + w / 32 % 2 + w / 64 % 2
theorem pc_tab : ∀ w, w < 128 → ∀ s, s < 7 → w.testBit s = false → pc (w ||| 2 ^ s) = pc w + 1 := by decide +kernel
theorem pc_all : ∀ n, n < 8 → ∀ w, w < 2 ^ n → (pc w ≤ n ∧ (pc w = n → w + 1 = 2 ^ n) ∧ (w + 1 = 2 ^ n → pc w = n)) := by decide +kernel
theorem w_sup {w c b : Nat} (h : w &&& c = c) : (w ||| b) &&& c = c := by
  apply Nat.eq_of_testBit_eq
  intro i
  have : (w &&& c).testBit i = c.testBit i := by rw [h]
  rw [Nat.testBit_and] at this ⊢
  rw [Nat.testBit_or]
  cases z : c.testBit i with
  | false => rw [Bool.and_false]
  | true => rw [z, Bool.and_true] at this; rw [this]; rfl
/-- all that the reference reads but its best row -/
def Rw (X Y : gp_H) : Prop := ∀ a k, isR a = true → a ≠ 88 → ¬ (a = 55 ∧ k = 42) → gI Y a k = gI X a k
theorem rch_rf (g : Rw X Y) {s m o : Int32} : rch N Y s m o = rch N X s m o := by
  have e59 : ∀ k, gI Y 59 k = gI X 59 k := fun k => g 59 k rfl (by decide) (by omega)
  have eA : ∀ k, pA Y k = pA X k := fun k => by unfold pA; rw [g 56 k rfl (by decide) (by omega)]
  have eB : ∀ k, pB Y k = pB X k := fun k => by unfold pB; rw [g 57 k rfl (by decide) (by omega)]
  have : rcR N Y m o = rcR N X m o := by
    funext i j
    unfold rcR
    simp only [e59, eA, eB]
  unfold rch
  rw [this]
theorem te_rf (g : Rw X Y) : teS Y = teS X := by unfold teS; rw [g 55 11 rfl (by decide) (by omega)]
theorem bd_rf (g : Rw X Y) {d : Int32} {p : Nat} : bdr Y d p = bdr X d p := by unfold bdr; rw [g 56 p rfl (by decide) (by omega), g 57 p rfl (by decide) (by omega)]
theorem pr_rf (g : Rw X Y) {d : Int32} : Prt N Y d ↔ Prt N X d := by
  unfold Prt
  exact ⟨fun h p hp z => by rw [← g 58 p rfl (by decide) (by omega)]; exact h p hp (by rw [bd_rf g]; exact z), fun h p hp z => by rw [g 58 p rfl (by decide) (by omega)]; exact h p hp (by rw [← bd_rf g]; exact z)⟩
theorem su_rf (g : Rw X Y) {d : Int32} {k : Nat} : Sup N S Y d k ↔ Sup N S X d k := by
  have e1 : ∀ m o, usF Y m o = usF X m o := fun m o => funext fun j => by unfold usF; rw [g 74 j rfl (by decide) (by omega), g 70 j rfl (by decide) (by omega), g 71 j rfl (by decide) (by omega)]
  have e2 : ∀ m, mkF Y m = mkF X m := fun m => funext fun j => by unfold mkF; rw [g 63 j rfl (by decide) (by omega), g 60 j rfl (by decide) (by omega), g 61 j rfl (by decide) (by omega)]
  unfold Sup grp usS mkS
  rw [rch_rf g, e1, e2]
theorem kn_rf (g : Rw X Y) {m : Int32} : knS N Y m = knS N X m := or_cg (N 7) (fun s _ => by unfold knF; rw [g 85 s rfl (by decide) (by omega)])
theorem lk_rf (g : Rw X Y) {k : Nat} : lkV N S Y k = lkV N S X k := by
  have e1 : hmK Y k = hmK X k := funext fun j => by unfold hmK; rw [g 74 j rfl (by decide) (by omega), g 70 j rfl (by decide) (by omega), g 71 j rfl (by decide) (by omega)]
  have e2 : wkK Y k = wkK X k := funext fun j => by unfold wkK; rw [g 63 j rfl (by decide) (by omega), g 60 j rfl (by decide) (by omega), g 61 j rfl (by decide) (by omega)]
  unfold lkV
  rw [e1, e2]
def SuA (N : Nat → Nat) (S : gp_S) (X : gp_H) (d : Int32) : Prop := ∀ k, bt (rest_ N d) k = true → Sup N S X d k
noncomputable def fdW (N : Nat → Nat) (X : gp_H) (d : Int32) : Int32 := rch N X (teS X) d 0
def kw (N : Nat → Nat) (X : gp_H) (w : Nat) : Int32 := knS N X (nI w)
def bdB (X : gp_H) (d : Int32) (p : Nat) : Bool := !(gb d (gI X 56 p) == gb d (gI X 57 p))
def brN (N : Nat → Nat) (X : gp_H) (d : Int32) : Nat := cn (bdB X d) (N 1)
theorem bdB_i (d : Int32) (p : Nat) : bdB X d p = true ↔ bdr X d p := by
  unfold bdB bdr
  cases gb d (gI X 56 p) <;> cases gb d (gI X 57 p) <;> decide
/-- one more sector, on what a set of them costs from there -/
def okW (N : Nat → Nat) (S : gp_S) (X : gp_H) (d st : Int32) : Prop := Prt N X d ∧ st &&& (fdW N X d ^^^ (-1)) = 0 ∧ SuA N S X d
noncomputable def onV (N : Nat → Nat) (S : gp_S) (X : gp_H) (l : Nat) (d st : Int32) : Nat := @ite _ (l < 1000000 ∧ okW N S X d st) (Classical.propDecidable _) (l + brN N X d) 1000000
def mnN (f : Nat → Nat) : Nat → Nat
  | 0 => 1000000
  | k + 1 => if f k < mnN f k then f k else mnN f k
def am (f : Nat → Nat) : Nat → Nat
  | 0 => 0
  | k + 1 => if f k < mnN f k then k else am f k
noncomputable def LL (N : Nat → Nat) (S : gp_S) (X : gp_H) (w : Nat) : Nat :=
  if w + 1 = 2 ^ N 7 then 0 else mnN (fun s => if _h : w < w ||| 2 ^ s ∧ w ||| 2 ^ s < 2 ^ N 7 then onV N S X (LL N S X (w ||| 2 ^ s)) (kw N X (w ||| 2 ^ s)) (gI X 85 s) else 1000000) (N 7)
termination_by 2 ^ N 7 - w
decreasing_by omega
noncomputable def fW (N : Nat → Nat) (S : gp_S) (X : gp_H) (w s : Nat) : Nat := if w < w ||| 2 ^ s ∧ w ||| 2 ^ s < 2 ^ N 7 then onV N S X (LL N S X (w ||| 2 ^ s)) (kw N X (w ||| 2 ^ s)) (gI X 85 s) else 1000000
theorem LL_e (w : Nat) : LL N S X w = if w + 1 = 2 ^ N 7 then 0 else mnN (fW N S X w) (N 7) := by
  rw [LL]
  congr 1
theorem mn_le (f : Nat → Nat) : ∀ k, mnN f k ≤ 1000000
  | 0 => Nat.le_refl _
  | k + 1 => by
    have := mn_le f k
    show (if f k < mnN f k then f k else mnN f k) ≤ 1000000
    split <;> omega
theorem am_1 (f : Nat → Nat) : ∀ k, mnN f k < 1000000 → am f k < k ∧ f (am f k) = mnN f k ∧ ∀ s, s < am f k → ¬ f s = mnN f k
  | 0, h => absurd h (by show ¬ 1000000 < 1000000; omega)
  | k + 1, h => by
    have h' : (if f k < mnN f k then f k else mnN f k) < 1000000 := h
    show (if f k < mnN f k then k else am f k) < k + 1 ∧ f (if f k < mnN f k then k else am f k) = (if f k < mnN f k then f k else mnN f k) ∧ ∀ s, s < (if f k < mnN f k then k else am f k) → ¬ f s = (if f k < mnN f k then f k else mnN f k)
    by_cases z : f k < mnN f k
    · rw [if_pos z, if_pos z]
      refine ⟨by omega, rfl, fun s hs => ?_⟩
      have := mn_all f k s hs
      omega
    · rw [if_neg z] at h'
      obtain ⟨a1, a2, a3⟩ := am_1 f k h'
      rw [if_neg z, if_neg z]
      exact ⟨by omega, a2, a3⟩
where
  mn_all (f : Nat → Nat) : ∀ k s, s < k → mnN f k ≤ f s
    | 0, s, h => absurd h (Nat.not_lt_zero _)
    | k + 1, s, h => by
      show (if f k < mnN f k then f k else mnN f k) ≤ f s
      by_cases z : s = k
      · subst z; split <;> omega
      · have := mn_all f k s (by omega)
        split <;> omega
theorem br_le (h : Inv N S X) (d : Int32) : brN N X d ≤ 20 := Nat.le_trans (cn_le _ _) h.net.2.1.2.2
theorem on_le (h : Inv N S X) {l B : Nat} {d st : Int32} (hl : l < 1000000 → l ≤ B) : onV N S X l d st = 1000000 ∨ (onV N S X l d st = l + brN N X d ∧ l < 1000000 ∧ okW N S X d st ∧ onV N S X l d st ≤ B + 20) := by
  have := br_le h d
  unfold onV
  by_cases z : l < 1000000 ∧ okW N S X d st
  · have := hl z.1
    refine Or.inr ⟨?_, z.1, z.2, ?_⟩
    · rw [if_pos z]
    · rw [if_pos z]; omega
  · exact Or.inl (by rw [if_neg z])
theorem mn_b {f : Nat → Nat} {B : Nat} : ∀ k, (∀ s, s < k → f s < 1000000 → f s ≤ B) → mnN f k < 1000000 → mnN f k ≤ B
  | 0, _, h => absurd h (by show ¬ 1000000 < 1000000; omega)
  | k + 1, hb, h => by
    have h' : (if f k < mnN f k then f k else mnN f k) < 1000000 := h
    show (if f k < mnN f k then f k else mnN f k) ≤ B
    by_cases z : f k < mnN f k
    · rw [if_pos z] at h' ⊢; exact hb k (by omega) h'
    · rw [if_neg z] at h' ⊢; exact mn_b k (fun s hs => hb s (by omega)) h'
theorem LL_b (h : Inv N S X) : ∀ (d w : Nat), d + w = 127 → LL N S X w < 1000000 → LL N S X w ≤ 20 * d := by
  intro d
  induction d using Nat.strongRecOn with
  | _ d ih =>
    intro w e hl
    rw [LL_e] at hl ⊢
    by_cases z : w + 1 = 2 ^ N 7
    · rw [if_pos z]; omega
    · rw [if_neg z] at hl ⊢
      have k3 := h.sec.1.2.2
      have p8 := p128 k3
      refine mn_b (N 7) (fun s hs hf => ?_) hl
      unfold fW at hf ⊢
      by_cases y : w < w ||| 2 ^ s ∧ w ||| 2 ^ s < 2 ^ N 7
      · rw [if_pos y] at hf ⊢
        rcases on_le h (l := LL N S X (w ||| 2 ^ s)) (B := 20 * (127 - (w ||| 2 ^ s))) (d := kw N X (w ||| 2 ^ s)) (st := gI X 85 s) (fun x => ih (127 - (w ||| 2 ^ s)) (by omega) (w ||| 2 ^ s) (by omega) x) with q | ⟨-, -, -, q⟩
        · omega
        · omega
      · rw [if_neg y] at hf; omega
theorem fW_b (h : Inv N S X) {w s : Nat} (hf : fW N S X w s < 1000000) : fW N S X w s ≤ 2560 ∧ w < w ||| 2 ^ s ∧ w ||| 2 ^ s < 2 ^ N 7 ∧ LL N S X (w ||| 2 ^ s) < 1000000 ∧ okW N S X (kw N X (w ||| 2 ^ s)) (gI X 85 s) ∧ fW N S X w s = LL N S X (w ||| 2 ^ s) + brN N X (kw N X (w ||| 2 ^ s)) := by
  have p8 := p128 h.sec.1.2.2
  unfold fW at hf ⊢
  by_cases y : w < w ||| 2 ^ s ∧ w ||| 2 ^ s < 2 ^ N 7
  · rw [if_pos y] at hf ⊢
    rcases on_le h (l := LL N S X (w ||| 2 ^ s)) (B := 2540) (d := kw N X (w ||| 2 ^ s)) (st := gI X 85 s) (fun x => by
      have := LL_b h (127 - (w ||| 2 ^ s)) (w ||| 2 ^ s) (by omega) x
      omega) with q | ⟨q1, q2, q3, q4⟩
    · omega
    · exact ⟨by omega, y.1, y.2, q2, q3, q1⟩
  · rw [if_neg y] at hf; omega
/-- what a set costs, from it on -/
noncomputable def PW (N : Nat → Nat) (S : gp_S) (X : gp_H) (w : Nat) : Nat := @ite _ (LL N S X w < 1000000 ∧ Prt N X (kw N X w) ∧ SuA N S X (kw N X w)) (Classical.propDecidable _) (LL N S X w + brN N X (kw N X w)) 1000000
theorem PW_c (w : Nat) : (LL N S X w < 1000000 ∧ Prt N X (kw N X w) ∧ SuA N S X (kw N X w) ∧ PW N S X w = LL N S X w + brN N X (kw N X w)) ∨ (¬ (LL N S X w < 1000000 ∧ Prt N X (kw N X w) ∧ SuA N S X (kw N X w)) ∧ PW N S X w = 1000000) := by
  unfold PW
  by_cases z : LL N S X w < 1000000 ∧ Prt N X (kw N X w) ∧ SuA N S X (kw N X w)
  · exact Or.inl ⟨z.1, z.2.1, z.2.2, by rw [if_pos z]⟩
  · exact Or.inr ⟨z, by rw [if_neg z]⟩
def Sm (X Y : gp_H) : Prop := ∀ a k, a ≠ 28 → a ≠ 29 → a ≠ 30 → gI Y a k = gI X a k
theorem sm_rf (g : Sm X Y) : Rw X Y := fun a k ha _ _ => g a k (fun z => by rw [z] at ha; exact absurd ha (by decide)) (fun z => by rw [z] at ha; exact absurd ha (by decide)) (fun z => by rw [z] at ha; exact absurd ha (by decide))
theorem sm_inv (h : Inv N S X) (l : Lay S Y) (g : Sm X Y) : Inv N S Y := inv_scr h l (fun a k _ z1 z2 z3 => g a k z1 z2 z3)
def TbC (N : Nat → Nat) (S : gp_S) (X Y : gp_H) (c w0 : Nat) : Prop := ∀ w, w0 < w → w < 2 ^ N 7 → w &&& c = c → gI Y 28 w = nI (PW N S X w) ∧ (PW N S X w < 1000000 → gI Y 29 w = fdW N X (kw N X w)) ∧ (w + 1 < 2 ^ N 7 → LL N S X w < 1000000 → gI Y 30 w = nI (am (fW N S X w) (N 7)))
theorem nI_m {w : Nat} (h : 0 < w) : nI w + (-1) = nI (w - 1) := by
  have e : nI w = nI (w - 1) + 1 := by rw [nI_s]; congr 1; omega
  rw [e, Int32.add_assoc, show (1 : Int32) + (-1) = 0 from by decide, Int32.add_zero]
theorem all_nI {n : Nat} (hn : n ≤ 7) : ((1 : Int32) <<< (nI n &&& 31)) - 1 = nI (2 ^ n - 1) := by
  have : ∀ n, n < 8 → ((1 : Int32) <<< (nI n &&& 31)) - 1 = nI (2 ^ n - 1) := by decide
  exact this n (by omega)
theorem s_priceAfter (h : Inv N S X) (lY : Lay S Y) (g : Sm X Y) {c w : Nat} (hw : w < 2 ^ N 7) (hc : w &&& c = c) (t : TbC N S X Y c w) : Ev E m_se_priceAfter 0 [(0, .ref 23), (1, .int (nI w))] [] Y (0, 0) (fun r Y' => r = some (.int (nI (LL N S X w))) ∧ Lay S Y' ∧ (∀ a k, ¬ (a = 30 ∧ k = w) → gI Y' a k = gI Y a k) ∧ (w + 1 < 2 ^ N 7 → LL N S X w < 1000000 → gI Y' 30 w = nI (am (fW N S X w) (N 7)))) := by
  obtain ⟨⟨k1, k2, k3⟩, s4, -⟩ := h.sec
  have p8 := p128 k3
  have e1 : gI Y 23 1 = nI (N 7) := (g 23 1 (by decide) (by decide) (by decide)).trans k1
  refine b_se_priceAfter_0 lY ?_
  rw [e1, all_nI k3, nI_eq (by omega) (by omega)]
  refine ⟨fun z => ?_, fun z => ⟨?_, lY, fun _ _ _ => rfl, fun y => absurd y (by omega)⟩⟩
  · have eL : LL N S X w = mnN (fW N S X w) (N 7) := by rw [LL_e, if_neg (by omega)]
    rw [eL]
    have go : ∀ d k (Y1 : gp_H), d + k = N 7 → Lay S Y1 → (∀ a i, ¬ (a = 30 ∧ i = w) → gI Y1 a i = gI Y a i) → (mnN (fW N S X w) k < 1000000 → gI Y1 30 w = nI (am (fW N S X w) k)) → Ev E m_se_priceAfter 15 [(0, .ref 23), (1, .int (nI w)), (2, .int (nI (mnN (fW N S X w) k))), (3, .int (nI k))] [] Y1 (0, 0) (fun r Y' => r = some (.int (nI (mnN (fW N S X w) (N 7)))) ∧ Lay S Y' ∧ (∀ a k, ¬ (a = 30 ∧ k = w) → gI Y' a k = gI Y a k) ∧ (w + 1 < 2 ^ N 7 → mnN (fW N S X w) (N 7) < 1000000 → gI Y' 30 w = nI (am (fW N S X w) (N 7)))) := by
      intro d
      induction d with
      | zero =>
        intro k Y1 e l1 f1 n1
        obtain rfl : k = N 7 := by omega
        exact b_se_priceAfter_15 l1 ⟨fun _ => ⟨rfl, l1, f1, fun _ y => n1 y⟩, fun z => absurd (by rw [f1 23 1 (by omega), e1]; exact Int32.le_refl _) z⟩
      | succ d ih =>
        intro k Y1 e l1 f1 n1
        have hk : k < N 7 := by omega
        have ml := mn_le (fW N S X w) k
        have hw' := w_lt k3 hw hk
        have nx : ¬ fW N S X w k < mnN (fW N S X w) k → Ev E m_se_priceAfter 15 [(0, .ref 23), (1, .int (nI w)), (2, .int (nI (mnN (fW N S X w) k))), (3, .int (nI (k + 1)))] [] Y1 (0, 0) (fun r Y' => r = some (.int (nI (mnN (fW N S X w) (N 7)))) ∧ Lay S Y' ∧ (∀ a k, ¬ (a = 30 ∧ k = w) → gI Y' a k = gI Y a k) ∧ (w + 1 < 2 ^ N 7 → mnN (fW N S X w) (N 7) < 1000000 → gI Y' 30 w = nI (am (fW N S X w) (N 7)))) := fun z => by
          have m1 : mnN (fW N S X w) (k + 1) = mnN (fW N S X w) k := if_neg z
          have m2 : am (fW N S X w) (k + 1) = am (fW N S X w) k := if_neg z
          have := ih (k + 1) Y1 (by omega) l1 f1 (by rw [m1, m2]; exact n1)
          rw [m1] at this
          exact this
        obtain ⟨-, b2, b3⟩ := w_tab w (by omega) k (by omega)
        refine b_se_priceAfter_15 l1 ⟨fun z => absurd z (by rw [f1 23 1 (by omega), e1]; exact nI_nge hk (by omega)), fun _ => ?_⟩
        rw [w_or k3 hw hk, nI_eq (by omega) (by omega), nI_s, nI_c (k := k) (by omega), nI_c (k := w ||| 2 ^ k) (by omega), nI_c (k := w) (by omega)]
        refine ⟨fun y => nx ?_, fun y => ⟨vin (by omega) (by omega), vin (by omega) (by omega), ?_⟩⟩
        · have : fW N S X w k = 1000000 := if_neg (by omega)
          omega
        · have hlt : w < w ||| 2 ^ k := by
            cases q : w.testBit k with
            | true => exact absurd (b2 q) y
            | false => exact b3 q
          obtain ⟨t1, t2, -⟩ := t (w ||| 2 ^ k) hlt hw' (w_sup hc)
          have e24 : gI Y1 24 k = gI X 85 k := (f1 24 k (by omega)).trans ((g 24 k (by decide) (by decide) (by decide)).trans (s4 k))
          rw [e24, f1 29 _ (by omega), f1 28 _ (by omega), t1]
          have fe : fW N S X w k = onV N S X (LL N S X (w ||| 2 ^ k)) (kw N X (w ||| 2 ^ k)) (gI X 85 k) := if_pos ⟨hlt, hw'⟩
          rcases PW_c (N := N) (S := S) (X := X) (w ||| 2 ^ k) with ⟨p1, p2, p3, p4⟩ | ⟨p1, p2⟩
          · have lb := LL_b h (127 - (w ||| 2 ^ k)) (w ||| 2 ^ k) (by omega) p1
            have bb := br_le h (kw N X (w ||| 2 ^ k))
            rw [t2 (by omega), nI_leI (by omega) (by omega)]
            by_cases q : gI X 85 k &&& (fdW N X (kw N X (w ||| 2 ^ k)) ^^^ (-1)) = 0
            · have fv : fW N S X w k = PW N S X (w ||| 2 ^ k) := by
                rw [fe, p4]
                unfold onV
                rw [if_pos ⟨p1, p2, q, p3⟩]
              refine ⟨fun _ => ⟨fun y2 => nx (by omega), fun y2 => ⟨vin (by omega) (by omega), ?_⟩⟩, fun y2 => absurd q y2⟩
              have m1 : mnN (fW N S X w) (k + 1) = fW N S X w k := if_pos (by omega)
              have m2 : am (fW N S X w) (k + 1) = k := if_pos (by omega)
              have := ih (k + 1) (gp_sI Y1 30 w (nI k)) (by omega) (ly_sI l1) (fun a i ha => (if_neg ha).trans (f1 a i ha)) (fun _ => by rw [m2]; exact if_pos ⟨rfl, rfl⟩)
              rw [m1, fv] at this
              exact this
            · have fv : fW N S X w k = 1000000 := by
                rw [fe]
                unfold onV
                rw [if_neg (fun x => q x.2.2.1)]
              exact ⟨fun y2 => absurd y2 q, fun _ => nx (by omega)⟩
          · have fv : fW N S X w k = 1000000 := by
              rw [fe]
              unfold onV
              rw [if_neg (fun x => p1 ⟨x.1, x.2.1, x.2.2.2⟩)]
            rw [p2, nI_leI (by omega) (by omega)]
            exact ⟨fun _ => ⟨fun _ => nx (by omega), fun y2 => absurd ml y2⟩, fun _ => nx (by omega)⟩
    exact go (N 7) 0 Y rfl lY (fun _ _ _ => rfl) (fun z => absurd z (by show ¬ 1000000 < 1000000; omega))
  · rw [LL_e, if_pos (by omega)]
    rfl
theorem s_pipes (h : Inv N S X) (d : Int32) : Ev E m_ne_pipesToRest 0 [(0, .ref 1), (1, .int d)] [] X (0, 0) (gp_q (some (.int (nI (brN N X d)))) X) := by
  have hL := h.lay
  obtain ⟨-, ⟨k1, k2, k3⟩, -⟩ := h.net
  refine b_ne_pipesToRest_0 hL ?_
  refine dn (P := fun k => Ev E m_ne_pipesToRest 4 [(0, .ref 1), (1, .int d), (2, .int (nI (cn (bdB X d) k))), (3, .int (nI k))] [] X (0, 0) (gp_q (some (.int (nI (brN N X d)))) X)) (n := N 1) ?_ ?_
  · exact b_ne_pipesToRest_4 hL ⟨fun _ => ⟨rfl, rfl⟩, fun z => absurd (by rw [k1]; exact Int32.le_refl _) z⟩
  · intro k hk ih
    rw [← cn_s] at ih
    refine b_ne_pipesToRest_4 hL ⟨fun z => absurd z (by rw [k1]; exact nI_nge hk (by omega)), fun _ => ?_⟩
    rw [nI_s k]
    cases q : bdB X d k with
    | true =>
      rw [q] at ih
      exact wh_i (s_ne_crosses h hL (cf_0 X) (p := k) (by omega) (V := 1) (fun _ => rfl) (fun z => absurd ((bdB_i d k).mp q) z)) hL ⟨fun z => absurd z (by decide), fun _ => ih⟩
    | false =>
      rw [q, show bz false = 0 from rfl, Int32.add_zero] at ih
      exact wh_i (s_ne_crosses h hL (cf_0 X) (p := k) (by omega) (V := 0) (fun z => bnf q ((bdB_i d k).mpr z)) (fun _ => rfl)) hL ⟨fun _ => ih, fun z => absurd rfl z⟩
theorem br_rf (g : Rw X Y) {d : Int32} : brN N Y d = brN N X d := by
  have : bdB Y d = bdB X d := funext fun p => by unfold bdB; rw [g 56 p rfl (by decide) (by omega), g 57 p rfl (by decide) (by omega)]
  unfold brN
  rw [this]
theorem s_weigh (h : Inv N S X) (lk : ∀ k, k < 12 → gI X 27 k = lkV N S X k) (lY : Lay S Y) (g : Sm X Y) {c w : Nat} (hw : w < 2 ^ N 7) (hc : w &&& c = c) (t : TbC N S X Y c w) : Ev E m_se_weigh 0 [(0, .ref 23), (1, .int (nI w))] [] Y (0, 0) (fun r Y' => r = none ∧ Lay S Y' ∧ (∀ a k, ¬ ((a = 28 ∨ a = 29 ∨ a = 30) ∧ k = w) → gI Y' a k = gI Y a k) ∧ gI Y' 28 w = nI (PW N S X w) ∧ (PW N S X w < 1000000 → gI Y' 29 w = fdW N X (kw N X w)) ∧ (w + 1 < 2 ^ N 7 → LL N S X w < 1000000 → gI Y' 30 w = nI (am (fW N S X w) (N 7)))) := by
  have k3 := h.sec.1.2.2
  have p8 := p128 k3
  have hY := sm_inv h lY g
  have ek : knS N Y (nI w) = kw N X w := kn_rf (sm_rf g)
  refine b_se_weigh_0 lY (wh_i (s_se_knotsOf hY (nI w)) lY ⟨_, s_priceAfter h lY g hw hc t, fun r Y1 ⟨x1, x2, x3, x4⟩ => ⟨_, x1, x2, vin (by omega) (by omega), ?_⟩⟩)
  rw [ek, nI_c (k := w) (by omega)]
  have lb := LL_b h (127 - w) w (by omega)
  have bb := br_le h (kw N X w)
  have lm : LL N S X w ≤ 1000000 := by
    rw [LL_e]
    split
    · omega
    · exact mn_le _ _
  have g2 : Sm X (gp_sI Y1 28 w 1000000) := fun a k z1 z2 z3 => (if_neg (fun y => z1 y.1)).trans ((x3 a k (fun y => z3 y.1)).trans (g a k z1 z2 z3))
  have l2 : Lay S (gp_sI Y1 28 w 1000000) := ly_sI x2
  have h2 := sm_inv h l2 g2
  have r2 := sm_rf g2
  have e30 : gI (gp_sI Y1 28 w 1000000) 30 w = gI Y1 30 w := rfl
  have no : ¬ (LL N S X w < 1000000 ∧ Prt N X (kw N X w) ∧ SuA N S X (kw N X w)) → none = (none : Option Value) ∧ Lay S (gp_sI Y1 28 w 1000000) ∧ (∀ a k, ¬ ((a = 28 ∨ a = 29 ∨ a = 30) ∧ k = w) → gI (gp_sI Y1 28 w 1000000) a k = gI Y a k) ∧ gI (gp_sI Y1 28 w 1000000) 28 w = nI (PW N S X w) ∧ (PW N S X w < 1000000 → gI (gp_sI Y1 28 w 1000000) 29 w = fdW N X (kw N X w)) ∧ (w + 1 < 2 ^ N 7 → LL N S X w < 1000000 → gI (gp_sI Y1 28 w 1000000) 30 w = nI (am (fW N S X w) (N 7))) := fun z => by
    have eP : PW N S X w = 1000000 := by
      rcases PW_c (N := N) (S := S) (X := X) w with ⟨p1, p2, p3, -⟩ | ⟨-, p2⟩
      · exact absurd ⟨p1, p2, p3⟩ z
      · exact p2
    refine ⟨rfl, l2, fun a k ha => (if_neg (by omega)).trans (x3 a k (by omega)), ?_, fun y => absurd y (by omega), x4⟩
    rw [eP]
    exact if_pos ⟨rfl, rfl⟩
  rw [show (1000000 : Int32) = nI 1000000 from rfl, nI_leI (by omega) (by omega)]
  refine ⟨fun z => no (fun y => by omega), fun z => ?_⟩
  by_cases a : Prt N X (kw N X w)
  · refine wh_i (s_ne_canBeParted h2 (V := 1) (fun _ => rfl) (fun y => absurd ((pr_rf r2).mpr a) y)) l2 ⟨fun y => absurd y (by decide), fun _ => ?_⟩
    have lk2 : ∀ k, k < 12 → gI (gp_sI Y1 28 w 1000000) 27 k = lkV N S (gp_sI Y1 28 w 1000000) k := fun k hk => by
      rw [lk_rf r2, ← lk k hk]
      exact g2 27 k (by decide) (by decide) (by decide)
    by_cases b : SuA N S X (kw N X w)
    · refine wh_i (s_se_restIsSupplied h2 lk2 (V := 1) (fun _ => rfl) (fun k y1 y2 => absurd ((su_rf r2).mpr (b k y1)) y2)) l2 ⟨fun _ => wh_i (s_pipes h2 _) l2 ?_, fun y => absurd y (by decide)⟩
      rw [br_rf r2, nI_add]
      have g3 : Sm X (gp_sI (gp_sI Y1 28 w 1000000) 28 w (nI (LL N S X w + brN N X (kw N X w)))) := fun a k z1 z2 z3 => (if_neg (fun y => z1 y.1)).trans (g2 a k z1 z2 z3)
      have h3 := sm_inv h (ly_sI l2) g3
      refine wh_i (s_ne_fedWithin h3 (kn_low h _)) (ly_sI l2) ?_
      rw [rch_rf (sm_rf g3), te_rf (sm_rf g3)]
      have eP : PW N S X w = LL N S X w + brN N X (kw N X w) := by
        rcases PW_c (N := N) (S := S) (X := X) w with ⟨-, -, -, p⟩ | ⟨p1, -⟩
        · exact p
        · exact absurd ⟨by omega, a, b⟩ p1
      refine ⟨rfl, ly_sI (ly_sI l2), fun a k ha => (if_neg (by omega)).trans ((if_neg (by omega)).trans ((if_neg (by omega)).trans (x3 a k (by omega)))), ?_, fun _ => if_pos ⟨rfl, rfl⟩, x4⟩
      rw [eP]
      simp only [gI_sI]
      rw [if_neg (by omega), if_pos ⟨trivial, trivial⟩]
    · have b' : ∃ k, bt (rest_ N (kw N X w)) k = true ∧ ¬ Sup N S X (kw N X w) k := Classical.byContradiction (fun y => b (fun k hk => Classical.byContradiction (fun y2 => y ⟨k, hk, y2⟩)))
      obtain ⟨k, b1, b2⟩ := b'
      exact wh_i (s_se_restIsSupplied h2 lk2 (V := 0) (fun y => absurd ((su_rf r2).mp (y k b1)) b2) (fun _ _ _ => rfl)) l2 ⟨fun y => absurd rfl y, fun _ => no (fun y => b y.2.2)⟩
  · exact wh_i (s_ne_canBeParted h2 (V := 0) (fun y => absurd ((pr_rf r2).mp y) a) (fun _ => rfl)) l2 ⟨fun _ => no (fun y => a y.2.1), fun y => absurd rfl y⟩
end BST
