/-! lose, sheet -/
theorem cGe_m1 : cGe (nI 0 - 1) 0 = false := by decide
theorem cGe_p {n : Nat} (h : n < 2147483648) : cGe (nI n) 0 = true := by
  rw [show (0 : Int32) = nI 0 from rfl, cGe_nI h (by decide)]
  exact decide_eq_true (Nat.zero_le n)
theorem pr_lose (σ : PS) (h : Rel σ) (p0 : Int32) : Pair (F_X4_lose p0) (F_X5_lose p0) σ := pair_of h fun A hW => by
  cases hv : vin p0 4 with
  | false =>
    refine ⟨-1, A, hW, ansC_q fun σ hC => ?_, ansM_q fun σ hM => ?_⟩
    · unfold F_X4_lose
      rw [e_sheetOf_n σ hv]; rfl
    · unfold F_X5_lose
      rw [e_noSheet, hv]; rfl
  | true =>
    obtain ⟨k, hk, rfl⟩ := vin_ex hv (by decide)
    have hz := hW.2.2.2 k hk
    cases hn : aZ A k with
    | zero =>
      refine ⟨0, A, hW, ansC_q fun σ hC => ?_, ansM_mk fun σ hM => ⟨sA σ 30 k (-1), ?_, ?_, eqC_sA (by decide)⟩⟩
      · unfold F_X4_lose
        rw [e_sheetOf σ hk, Option.bind_some]
        dsimp only
        rw [isSh_k hk, cond_true, e_hasNothing hW hC hk, hn]; rfl
      · unfold F_X5_lose
        rw [e_noSheet, hv, Option.bind_some]
        dsimp only
        rw [cEq_bI, Bool.not_true, Bool.not_false, cond_true, cond_true, cond_true, tn (by omega), (hM.2.2.2.2.2 k hk).1, hn, cGe_m1]; rfl
      · refine RM_eq (σ := σ) ⟨fun _ _ => rfl, fun _ _ => rfl, fun a ha i => ?_⟩ hM
        rw [gA_sA]
        by_cases e : a = 30
        · rw [if_pos e]
          by_cases e2 : i = k
          · rw [if_pos e2, e, e2, (hM.2.2.2.2.2 k hk).1, hn]; decide
          · rw [if_neg e2, e]
        · rw [if_neg e]
    | succ n =>
      refine ⟨1, setSh A k 0 (aL A k) (A.2.2.2 k), WF_sh hW (by decide) hz.2 (fun i hi => absurd hi (Nat.not_lt_zero _)), ansC_mk fun σ hC => ⟨sI σ (64 * (2 * k + 2) + 1) (-1), ?_, ?_, eqM_sI (by omega)⟩, ansM_mk fun σ hM => ⟨sA σ 30 k (-1), ?_, ?_, eqC_sA (by decide)⟩⟩
      · unfold F_X4_lose
        rw [e_sheetOf σ hk, Option.bind_some]
        dsimp only
        rw [isSh_k hk, cond_true, e_hasNothing hW hC hk, hn]; rfl
      · refine RC_sh hk hC (fun c h1 h2 h3 => ?_) (fun _ _ => rfl) (fun _ _ _ _ => rfl) ?_ ?_ (fun i hi => absurd hi (Nat.not_lt_zero _))
        · rw [gI_sI, if_neg h2]
        · rw [gI_sI, if_pos rfl]; decide
        · rw [gI_sI, if_neg (by omega)]; exact (hC.2.2.2.2.2 k hk).2.1
      · unfold F_X5_lose
        rw [e_noSheet, hv, Option.bind_some]
        dsimp only
        rw [cEq_bI, Bool.not_true, Bool.not_false, cond_true, cond_true, cond_true, tn (by omega), (hM.2.2.2.2.2 k hk).1, hn, nI_m1, cGe_p (by omega)]; rfl
      · refine RM_sh hk hW hM (fun _ _ => rfl) (fun _ _ => rfl) (fun a h1 h2 i => ?_) (fun q hq => ?_) (fun q hq => ?_) (fun c hc => ?_) ?_ ?_ (fun i hi => absurd hi (Nat.not_lt_zero _))
        · rw [gA_sA, if_neg (by omega)]
        · rw [gA_sA, if_pos rfl, if_neg hq]
        · rw [gA_sA, if_neg (by omega)]
        · rw [gA_sA, if_neg (by omega)]
        · rw [gA_sA, if_pos rfl, if_pos rfl]; decide
        · rw [gA_sA, if_neg (by omega)]; exact (hM.2.2.2.2.2 k hk).2.1
theorem e_refused (v : Int32) (σ : PS) : F_X5_refused v σ = some (v, sI σ 1216 (nI 0)) := rfl
theorem fill_run (a : Nat) : ∀ (m n j : Nat) (σ : PS), j + m = 60 → m < n → ∃ σ', L_J7_fill_53178 a 60 n 0 (nI j) (Int32.ofNat 60) σ = some ((), σ') ∧ (∀ z, gI σ' z = gI σ z) ∧ (∀ z, gL σ' z = gL σ z) ∧ (∀ c i, c ≠ a → gA σ' c i = gA σ c i) ∧ (∀ i, i < j → gA σ' a i = gA σ a i) ∧ ∀ i, j ≤ i → i < 60 → gA σ' a i = 0 := by
  intro m
  induction m with
  | zero =>
    intro n j σ hj hn
    obtain ⟨n, rfl⟩ : ∃ n', n = n' + 1 := ⟨n - 1, by omega⟩
    refine ⟨σ, ?_, fun _ => rfl, fun _ => rfl, fun _ _ _ => rfl, fun _ _ => rfl, fun i h1 h2 => by omega⟩
    rw [L_J7_fill_53178]
    exact cnd_t (by rw [ofN, cGe_nI (by omega) (by decide)]; exact decide_eq_true (by omega)) rfl
  | succ m ih =>
    intro n j σ hj hn
    obtain ⟨n, rfl⟩ : ∃ n', n = n' + 1 := ⟨n - 1, by omega⟩
    obtain ⟨σ', e, g1, g2, g3, g4, g5⟩ := ih n (j + 1) (sA σ a j 0) (by omega) (by omega)
    refine ⟨σ', ?_, g1, g2, fun c i hc => ?_, fun i hi => ?_, fun i h1 h2 => ?_⟩
    · rw [L_J7_fill_53178]
      refine cnd_f (by rw [ofN, cGe_nI (by omega) (by decide)]; exact decide_eq_false (by omega)) (cnd_t (vin_of_lt (by omega) (by decide)) ?_)
      rw [tn (by omega), nI_1]
      exact e
    · rw [g3 c i hc, gA_sA, if_neg hc]
    · rw [g4 i (by omega), gA_sA, if_pos rfl, if_neg (by omega)]
    · by_cases h3 : i = j
      · rw [g4 i (by omega), gA_sA, if_pos rfl, if_pos h3]
      · exact g5 i (by omega) h2
