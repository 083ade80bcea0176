theorem p_trace {E : gp_E} {N : Nat → Nat} {S : gp_S} {X : gp_H} (h : Inv N S X) (x1 : Int32) : Ev E m_ga_trace 0 [(0, .ref 0), (1, .int x1)] [] X (0, 0) (gp_two E m_mo_trace [(0, .ref 55), (1, .int x1)]) := by
  have hL := h.lay
  obtain ⟨⟨k1, n, hn, k2⟩, q⟩ := h.trc
  have e : (if 20 < gI X 13 1 then 20 else gI X 13 1) = nI (min n 20) := by
    rw [k1, k2]
    by_cases z : 20 < n
    · rw [if_pos (nI_ltt (a := 20) z (by omega)), show min n 20 = 20 by omega]; rfl
    · rw [if_neg (fun y => z ((nI_ltI (a := 20) (by omega) (by omega)).mp y)), show min n 20 = n by omega]
  have mo : ∀ (t0 v : Int32), t0 = nI (min n 20) → (iw x1 0 (nI (min n 20) - 1) = false → v = -1) → (iw x1 0 (nI (min n 20) - 1) = true → gI X 103 (Int32.toNatClampNeg x1) = v) → Ev E m_mo_trace 20 [(0, .ref 55), (1, .int x1)] [.int t0, .int 0, .int x1] X (0, 0) (fun r2 X2 => r2 = some (.int v) ∧ ∃ N, Inv N S X2) := by
    intro t0 v ht h1 h2
    subst ht
    refine b_mo_trace_20 hL ⟨fun c => ⟨by rw [h1 c], N, h⟩, fun c => ?_⟩
    obtain ⟨i, hi, rfl⟩ := iw_nI (by omega) c
    exact ⟨vin (by omega) (by omega), by rw [h2 c], N, h⟩
  have both : ∀ v : Int32, (iw x1 0 (nI (min n 20) - 1) = false → v = -1) → (iw x1 0 (nI (min n 20) - 1) = true → gI X 103 (Int32.toNatClampNeg x1) = v) → Ev E m_mo_trace 0 [(0, .ref 55), (1, .int x1)] [] X (0, 0) (fun r2 X2 => r2 = some (.int v) ∧ ∃ N, Inv N S X2) := by
    intro v h1 h2
    refine b_mo_trace_0 hL ⟨fun z => mo _ v ?_ h1 h2, fun z => mo _ v ?_ h1 h2⟩
    · rw [k2] at z
      have := (nI_leI (a := 20) (by omega) (by omega)).mp z
      rw [show min n 20 = 20 by omega]; rfl
    · rw [k2] at z ⊢
      have : ¬ 20 ≤ n := fun y => z ((nI_leI (a := 20) (by omega) (by omega)).mpr y)
      rw [show min n 20 = n by omega]
  refine b_ga_trace_0 hL ?_
  rw [e]
  refine ⟨fun c => ?_, fun c => ?_⟩
  · obtain ⟨i, hi, rfl⟩ := iw_nI (by omega) c
    exact ⟨vin (by omega) (by omega), _, S, rfl, hL, both _ (fun z => bne c z) (fun _ => (q _).symm)⟩
  · exact ⟨_, S, rfl, hL, both _ (fun _ => rfl) (fun z => bnf c z)⟩
