/-! the start, and the calls that only look -/
theorem rel_start : Rel σ0 := by
  refine ⟨(fun _ => 0, fun _ _ => 0, fun _ => 0, fun _ _ => 0), ⟨Or.inl ⟨rfl, rfl, rfl, rfl, rfl, rfl, rfl, rfl⟩, ⟨fun i hi => Nat.zero_le _, fun k hk => absurd hk (Nat.not_lt_zero k), fun i hi => absurd hi (Nat.not_lt_zero i)⟩, Nat.zero_le _, fun k hk => ⟨Nat.zero_le _, Nat.zero_le _⟩⟩, ⟨⟨rfl, rfl, rfl, rfl, rfl, rfl, rfl⟩, ⟨fun i hi => absurd hi (Nat.not_lt_zero i), fun k hk => absurd hk (Nat.not_lt_zero k)⟩, ⟨rfl, fun i hi => absurd hi (Nat.not_lt_zero i)⟩, rfl, rfl, fun k hk => ?_⟩, ⟨⟨rfl, rfl, rfl, rfl, rfl, rfl, rfl, rfl⟩, ⟨fun i hi => absurd hi (Nat.not_lt_zero i), fun k hk => absurd hk (Nat.not_lt_zero k)⟩, ⟨rfl, fun i hi => absurd hi (Nat.not_lt_zero i)⟩, rfl, rfl, fun k hk => ?_⟩⟩
  · refine ⟨?_, ?_, fun i hi => absurd hi (Nat.not_lt_zero _)⟩
    · match k, hk with
      | 0, _ => rfl
      | 1, _ => rfl
      | 2, _ => rfl
      | 3, _ => rfl
    · match k, hk with
      | 0, _ => rfl
      | 1, _ => rfl
      | 2, _ => rfl
      | 3, _ => rfl
  · refine ⟨?_, rfl, fun i hi => absurd hi (Nat.not_lt_zero _)⟩
    match k, hk with
    | 0, _ => decide
    | 1, _ => decide
    | 2, _ => decide
    | 3, _ => decide
theorem pr_trace (σ : PS) (h : Rel σ) : Pair (F_X4_trace) (F_X5_trace) σ := pair_of h fun A hW => ⟨aTr A, A, hW, ansC_q fun σ hC => by rw [F_X4_trace, hC.2.2.2.1], ansM_q fun σ hM => by rw [F_X5_trace, hM.2.2.2.1]⟩
theorem pr_fault (σ : PS) (h : Rel σ) : Pair (F_X4_fault) (F_X5_fault) σ := pair_of h fun A hW => ⟨nI (aF A), A, hW, ansC_q fun σ hC => by rw [F_X4_fault, hC.2.2.2.2.1], ansM_q fun σ hM => by rw [F_X5_fault, hM.2.2.2.2.1]⟩
