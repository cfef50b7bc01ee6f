/-! the start, and the calls that only look -/
theorem rel_start : Rel σ0 := by
  refine ⟨(fun _ => 0, fun _ _ => 0, fun _ => 0, fun _ _ => 0), ⟨Or.inl ⟨rfl, rfl, rfl, rfl, rfl, rfl, rfl, rfl⟩, ⟨fun i hi => Nat.zero_le _, fun k hk => absurd hk (Nat.not_lt_zero k), fun i hi => absurd hi (Nat.not_lt_zero i), fun k hk i hi => absurd hi (Nat.not_lt_zero _)⟩, Nat.zero_le _, fun k hk => ⟨Nat.zero_le _, Nat.zero_le _⟩⟩, ⟨⟨rfl, rfl, rfl, rfl, rfl, rfl, rfl⟩, ⟨fun i hi => absurd hi (Nat.not_lt_zero i), fun k hk => absurd hk (Nat.not_lt_zero k)⟩, ⟨rfl, fun i hi => absurd hi (Nat.not_lt_zero i)⟩, rfl, rfl, fun k hk => ?_⟩, ⟨⟨rfl, rfl, rfl, rfl, rfl, rfl, rfl, rfl⟩, ⟨fun i hi => absurd hi (Nat.not_lt_zero i), fun k hk => absurd hk (Nat.not_lt_zero k)⟩, ⟨rfl, fun i hi => absurd hi (Nat.not_lt_zero i)⟩, rfl, rfl, fun k hk => ?_⟩⟩
  · refine ⟨?_, ?_, fun i hi => absurd hi (Nat.not_lt_zero _)⟩
    · match k, hk with
      | 0, _ => rfl
      | 1, _ => rfl
      | 2, _ => rfl
      | 3, _ => rfl
    · match k, hk with
      | 0, _ => rfl
      | 1, _ => rfl
      | 2, _ => rfl
      | 3, _ => rfl
  · refine ⟨?_, rfl, fun i hi => absurd hi (Nat.not_lt_zero _)⟩
    match k, hk with
    | 0, _ => decide
    | 1, _ => decide
    | 2, _ => decide
    | 3, _ => decide
theorem pr_trace (σ : PS) (h : Rel σ) : Pair (F_X4_trace) (F_X5_trace) σ := pair_of h fun A hW => ⟨aTr A, A, hW, ansC_q fun σ hC => by rw [F_X4_trace, hC.2.2.2.1], ansM_q fun σ hM => by rw [F_X5_trace, hM.2.2.2.1]⟩
theorem pr_fault (σ : PS) (h : Rel σ) : Pair (F_X4_fault) (F_X5_fault) σ := pair_of h fun A hW => ⟨nI (aF A), A, hW, ansC_q fun σ hC => by rw [F_X4_fault, hC.2.2.2.2.1], ansM_q fun σ hM => by rw [F_X5_fault, hM.2.2.2.2.1]⟩
theorem wf_b {A : AS} (h : WF A) : aW A ≤ 6 ∧ aT A ≤ 6 ∧ aK A ≤ 4 ∧ aW A * aT A ≤ 36 ∧ aN A ≤ 8 ∧ aR A ≤ 5 ∧ aC A ≤ 5 := by
  obtain ⟨h1, -, -⟩ := h
  rcases h1 with ⟨a, b, c, d, e, f, g, n⟩ | ⟨a, b, c, d, e, f, g, n, -, -, m⟩
  · rw [a, b, c, d, e, n]; decide
  · refine ⟨b, d, f, ?_, m, by omega, by omega⟩
    exact Nat.le_trans (Nat.mul_le_mul b d) (by decide)
theorem vin_ex {p : Int32} {N : Nat} (h : vin p N = true) (hN : N < 2147483648) : ∃ j, j < N ∧ p = nI j := vp_in_of (vin_of h) hN
theorem e_cells {A : AS} {σ : PS} (hC : RC A σ) : F_X1_cells σ = some (nI (aW A * aT A), σ) := by
  unfold F_X1_cells
  rw [hC.1.1, hC.1.2.1, pk_mul]
theorem e_isCell {A : AS} {σ : PS} (hW : WF A) (hC : RC A σ) (p : Int32) : F_X1_isCell p σ = some (bI (vin p (aW A * aT A)), σ) := by
  have hb := (wf_b hW).2.2.2.1
  unfold F_X1_isCell
  rcases p_cases p with h | ⟨j, hj, rfl⟩
  · rw [cLt_neg h, vin_neg h]; rfl
  · rw [cLt_pos hj, cond_false, e_cells hC, Option.bind_some]
    dsimp only
    rw [cGe_nI hj (by omega), vin_pos hj]
    by_cases hl : j < aW A * aT A
    · rw [decide_eq_true hl, decide_eq_false (by omega)]; rfl
    · rw [decide_eq_false hl, decide_eq_true (by omega)]; rfl
theorem e_isLooker {A : AS} {σ : PS} (hW : WF A) (hC : RC A σ) (p : Int32) : F_X1_isLooker p σ = some (bI (vin p (aK A)), σ) := by
  have hb := (wf_b hW).2.2.1
  unfold F_X1_isLooker
  rw [hC.1.2.2.1]
  rcases p_cases p with h | ⟨j, hj, rfl⟩
  · rw [cLt_neg h, vin_neg h]; rfl
  · rw [cLt_pos hj, cond_false, cGe_nI hj (by omega), vin_pos hj]
    by_cases hl : j < aK A
    · rw [decide_eq_true hl, decide_eq_false (by omega)]; rfl
    · rw [decide_eq_false hl, decide_eq_true (by omega)]; rfl
theorem e_noPlace {A : AS} {σ : PS} (hW : WF A) (hM : RM A σ) (p : Int32) : F_X5_noPlace p σ = some (bI (!vin p (aW A * aT A)), σ) := by
  have hb := (wf_b hW).2.2.2.1
  unfold F_X5_noPlace
  rw [hM.1.1, hM.1.2.1, pk_mul, e_inN p _ (by omega), Option.bind_some]
  dsimp only
  rw [cNe_bI]
  cases vin p (aW A * aT A) <;> rfl
theorem e_noLooker {A : AS} {σ : PS} (hW : WF A) (hM : RM A σ) (p : Int32) : F_X5_noLooker p σ = some (bI (!vin p (aK A)), σ) := by
  have hb := (wf_b hW).2.2.1
  unfold F_X5_noLooker
  rw [hM.1.2.2.1, e_inN p _ (by omega), Option.bind_some]
  dsimp only
  rw [cNe_bI]
  cases vin p (aK A) <;> rfl
theorem e_heightOf {A : AS} {σ : PS} (hW : WF A) (hC : RC A σ) {j : Nat} (hj : j < aW A * aT A) : F_X1_heightOf (nI j) σ = some (nI (aH A j), σ) := by
  have hb := (wf_b hW).2.2.2.1
  unfold F_X1_heightOf
  rw [e_numberAt _ _ (by decide), Option.bind_some, vin_of_lt (by omega) (by decide), tn (by omega)]
  show some (gA σ 11 j, σ) = _
  rw [hC.2.1.1 j hj]
theorem e_kindOf {A : AS} {σ : PS} (hW : WF A) (hC : RC A σ) {k : Nat} (hk : k < aK A) : F_X1_kindOf (nI k) σ = some (nI (aKd A k), σ) := by
  have hb := (wf_b hW).2.2.1
  unfold F_X1_kindOf
  rw [e_numberAt _ _ (by decide), Option.bind_some, vin_of_lt (by omega) (by decide), tn (by omega)]
  show some (gA σ 12 k, σ) = _
  rw [(hC.2.1.2 k hk).1]
theorem e_shortOf {A : AS} {σ : PS} (hW : WF A) (hC : RC A σ) {k : Nat} (hk : k < aK A) : F_X1_shortOf (nI k) σ = some (nI (aSh A k), σ) := by
  have hb := (wf_b hW).2.2.1
  unfold F_X1_shortOf
  rw [e_numberAt _ _ (by decide), Option.bind_some, vin_of_lt (by omega) (by decide), tn (by omega)]
  show some (gA σ 13 k, σ) = _
  rw [(hC.2.1.2 k hk).2]
theorem pr_height (σ : PS) (h : Rel σ) (p0 : Int32) : Pair (F_X4_height p0) (F_X5_height p0) σ := pair_of h fun A hW => by
  have hb := (wf_b hW).2.2.2.1
  cases hv : vin p0 (aW A * aT A) with
  | false =>
    refine ⟨-1, A, hW, ansC_q fun σ hC => ?_, ansM_q fun σ hM => ?_⟩
    · unfold F_X4_height
      rw [e_isCell hW hC, hv]; rfl
    · unfold F_X5_height
      rw [e_noPlace hW hM, hv]; rfl
  | true =>
    obtain ⟨j, hj, rfl⟩ := vin_ex hv (by omega)
    refine ⟨nI (aH A j), A, hW, ansC_q fun σ hC => ?_, ansM_q fun σ hM => ?_⟩
    · unfold F_X4_height
      rw [e_isCell hW hC, hv, Option.bind_some]
      dsimp only
      rw [cEq_bI, Bool.not_true, cond_false, e_heightOf hW hC hj]; rfl
    · unfold F_X5_height
      rw [e_noPlace hW hM, hv, Option.bind_some]
      dsimp only
      rw [cEq_bI, Bool.not_true, Bool.not_false, cond_true, vin_of_lt (by omega) (by decide), tn (by omega), hM.2.1.1 j hj]; rfl
theorem e_exists {A : AS} {σ : PS} (hW : WF A) (hC : RC A σ) : F_X1_exists σ = some (bI (!decide (aW A = 0)), σ) := by
  have hb := (wf_b hW).1
  unfold F_X1_exists
  rw [hC.1.1, show (0 : Int32) = nI 0 from rfl, cLe_nI (by omega) (by decide)]
  by_cases h0 : aW A = 0
  · rw [h0]; rfl
  · rw [decide_eq_false (by omega), decide_eq_false h0]; rfl
theorem wf_K {A : AS} (h : WF A) : aK A = 0 ↔ aW A = 0 := by
  rcases h.1 with ⟨a, b, c, -⟩ | ⟨a, b, c, d, e, -⟩
  · rw [a, c]
  · constructor <;> intro q <;> omega
theorem pr_seen (σ : PS) (h : Rel σ) : Pair (F_X4_seen) (F_X5_seen) σ := pair_of h fun A hW => by
  have hb := wf_b hW
  by_cases h0 : aW A = 0
  · refine ⟨-9223372036854775808, A, hW, ansC_q fun σ hC => ?_, ansM_q fun σ hM => ?_⟩
    · unfold F_X4_seen
      rw [e_exists hW hC, decide_eq_true h0]; rfl
    · unfold F_X5_seen
      rw [hM.1.2.2.1, (wf_K hW).mpr h0]; rfl
  · refine ⟨lN (aS A), A, hW, ansC_q fun σ hC => ?_, ansM_q fun σ hM => ?_⟩
    · unfold F_X4_seen
      rw [e_exists hW hC, decide_eq_false h0, Option.bind_some]
      dsimp only
      rw [cEq_bI, Bool.not_false, Bool.not_true, cond_false, F_X1_seenCells, hC.1.2.2.2.2.2.1]; rfl
    · unfold F_X5_seen
      have hk : aK A ≠ 0 := fun q => h0 ((wf_K hW).mp q)
      rw [hM.1.2.2.1, show (0 : Int32) = nI 0 from rfl, cNe_nI (by omega) (by decide), decide_eq_false hk, Bool.not_false, cond_true, hM.1.2.2.2.2.2.2.2]
