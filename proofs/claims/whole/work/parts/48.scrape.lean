/-! the pair of scrape -/
theorem sc_0 : ∀ K, K < 5 → ∀ G, G < 16 → ∀ k, k < 4 → k < K → G < 2 ^ K → (nI ((2 ^ K - 1) ^^^ G) &&& ((shl 1 (nI k)) ^^^ (-1))) = nI ((2 ^ K - 1) ^^^ (G ||| 2 ^ k)) := by decide +kernel
theorem sc_1 : ∀ K, K < 5 → ∀ G, G < 16 → ∀ k, k < 4 → k < K → G < 2 ^ K → (nI G ||| shl 1 (nI k)) = nI (G ||| 2 ^ k) := by decide +kernel
theorem sc_2 : ∀ K, K < 5 → ∀ G, G < 16 → ∀ k, k < 4 → k < K → G < 2 ^ K → G ||| 2 ^ k < 2 ^ K := by decide +kernel
theorem sc_3 : ∀ K, K < 5 → ∀ G, G < 16 → ∀ k, k < 4 → k < K → G < 2 ^ K → G ||| 2 ^ k < 16 := by decide +kernel
theorem sc_4 : ∀ K, K < 5 → ∀ G, G < 16 → ∀ k, k < 4 → k < K → G < 2 ^ K → (2 ^ K - 1) ^^^ (G ||| 2 ^ k) < 16 := by decide +kernel
theorem sc_5 : ∀ K, K < 5 → ∀ G, G < 16 → ∀ k, k < 4 → k < K → G < 2 ^ K → nI K - nI (popN 4 (G ||| 2 ^ k)) = nI (popN 4 ((2 ^ K - 1) ^^^ (G ||| 2 ^ k))) := by decide +kernel
theorem i64_16 : ∀ n, n < 16 → Int32.toInt64 (nI n) = lN n := by decide +kernel
theorem WF_G {A : AS} {G : Nat} (h : WF A) (hk : 1 ≤ aK A) (hG : G < 2 ^ aK A) : WF (setS A 5 G) := by
  refine ⟨?_, h.2.1, h.2.2⟩
  rcases h.1 with ⟨a, b, c, d⟩ | ⟨a, b, c, d, e, f, g, m, q, l, r⟩
  · exact absurd hk (by omega)
  · exact Or.inr ⟨a, b, c, d, e, f, g, m, hG, l, r⟩
theorem RC_G {A : AS} {σ : PS} (G : Nat) (h : RC A σ) : RC (setS A 5 G) (sI σ 646 (nI ((2 ^ aK A - 1) ^^^ G))) := by
  obtain ⟨⟨a1, a2, a3, a4, a5, a6, a7⟩, h2, ⟨h4, h5⟩, h6, h7, h8⟩ := h
  refine ⟨⟨?_, ?_, ?_, ?_, ?_, a6, ?_⟩, h2, ⟨?_, h5⟩, ?_, ?_, fun k hk => ⟨?_, ?_, (h8 k hk).2.2⟩⟩
  · rw [gI_sI, if_neg (by decide)]; exact a1
  · rw [gI_sI, if_neg (by decide)]; exact a2
  · rw [gI_sI, if_neg (by decide)]; exact a3
  · rw [gI_sI, if_pos rfl]; rfl
  · rw [gI_sI, if_neg (by decide)]; exact a5
  · rw [gI_sI, if_neg (by decide)]; exact a7
  · rw [gI_sI, if_neg (by decide)]; exact h4
  · rw [gI_sI, if_neg (by decide)]; exact h6
  · rw [gI_sI, if_neg (by decide)]; exact h7
  · rw [gI_sI, if_neg (by omega)]; exact (h8 k hk).1
  · rw [gI_sI, if_neg (by omega)]; exact (h8 k hk).2.1
theorem RM_G {A : AS} {σ : PS} (G : Nat) (h : RM A σ) : RM (setS A 5 G) (sI σ 1223 (nI G)) := by
  obtain ⟨⟨a1, a2, a3, a4, a5, a6, a7, a8⟩, h2, ⟨h4, h5⟩, h6, h7, h8⟩ := h
  refine ⟨⟨?_, ?_, ?_, ?_, ?_, ?_, ?_, a8⟩, h2, ⟨?_, h5⟩, ?_, ?_, h8⟩
  · rw [gI_sI, if_neg (by decide)]; exact a1
  · rw [gI_sI, if_neg (by decide)]; exact a2
  · rw [gI_sI, if_neg (by decide)]; exact a3
  · rw [gI_sI, if_neg (by decide)]; exact a4
  · rw [gI_sI, if_neg (by decide)]; exact a5
  · rw [gI_sI, if_neg (by decide)]; exact a6
  · rw [gI_sI, if_pos rfl]; rfl
  · rw [gI_sI, if_neg (by decide)]; exact h4
  · rw [gI_sI, if_neg (by decide)]; exact h6
  · rw [gI_sI, if_neg (by decide)]; exact h7
theorem pr_scrape (σ : PS) (h : Rel σ) (p0 : Int32) : Pair (F_X4_scrape p0) (F_X5_scrape p0) σ := pair_of h fun A hW => by
  have hb := (wf_b hW).2.2.1
  cases hv : vin p0 (aK A) with
  | false =>
    refine ⟨-1, A, hW, ansC_q fun σ hC => ?_, ansM_q fun σ hM => ?_⟩
    · unfold F_X4_scrape
      rw [e_isLooker hW hC, hv]; rfl
    · unfold F_X5_scrape
      rw [e_noLooker hW hM, hv]; rfl
  | true =>
    obtain ⟨j, hj, rfl⟩ := vin_ex hv (by omega)
    obtain ⟨g1, g2⟩ := wf_G hW
    cases ht : (aG A).testBit j with
    | true =>
      refine ⟨-3, A, hW, ansC_q fun σ hC => ?_, ansM_q fun σ hM => ?_⟩
      · unfold F_X4_scrape
        rw [e_isLooker hW hC, hv, Option.bind_some]
        dsimp only
        rw [cNe_bI, cond_true, e_isGone hW hC hj, ht]; rfl
      · unfold F_X5_scrape
        rw [e_noLooker hW hM, hv, Option.bind_some]
        dsimp only
        rw [cEq_bI, Bool.not_true, Bool.not_false, cond_true, hM.1.2.2.2.2.2.2.1, e_isIn hW (by omega), ht]; rfl
    | false =>
      have s1 := sc_0 (aK A) (by omega) (aG A) g1 j (by omega) hj g2
      have s2 := sc_1 (aK A) (by omega) (aG A) g1 j (by omega) hj g2
      have s3 := sc_2 (aK A) (by omega) (aG A) g1 j (by omega) hj g2
      have s4 := sc_3 (aK A) (by omega) (aG A) g1 j (by omega) hj g2
      have s5 := sc_4 (aK A) (by omega) (aG A) g1 j (by omega) hj g2
      have s6 := sc_5 (aK A) (by omega) (aG A) g1 j (by omega) hj g2
      refine ⟨nI (popN 4 ((2 ^ aK A - 1) ^^^ (aG A ||| 2 ^ j))), setS A 5 (aG A ||| 2 ^ j), WF_G hW (by omega) s3, ansC_mk fun σ hC => ⟨sI σ 646 (nI ((2 ^ aK A - 1) ^^^ (aG A ||| 2 ^ j))), ?_, RC_G _ hC, eqM_sI (by decide)⟩, ansM_mk fun σ hM => ⟨sI σ 1223 (nI (aG A ||| 2 ^ j)), ?_, RM_G _ hM, eqC_sI (by decide)⟩⟩
      · unfold F_X4_scrape
        rw [e_isLooker hW hC, hv, Option.bind_some]
        dsimp only
        rw [cNe_bI, cond_true, e_isGone hW hC hj, ht, Option.bind_some]
        dsimp only
        rw [cEq_bI, Bool.not_false, cond_true]
        unfold F_X1_takeOff F_X1_lookersLeft
        rw [hC.1.2.2.2.1, show nI (aO A) = nI ((2 ^ aK A - 1) ^^^ aG A) from rfl, s1, Option.bind_some]
        dsimp only
        rw [gI_sI, if_pos rfl, jbits s5]; rfl
      · unfold F_X5_scrape
        rw [e_noLooker hW hM, hv, Option.bind_some]
        dsimp only
        rw [cEq_bI, Bool.not_true, Bool.not_false, cond_true, hM.1.2.2.2.2.2.2.1, e_isIn hW (by omega), ht, Option.bind_some]
        dsimp only
        rw [cEq_bI, Bool.not_false, cond_true, hM.1.2.2.2.2.2.2.1, s2, gI_sI, if_pos rfl, i64_16 _ s4, e_bits4 s4, Option.bind_some]
        dsimp only
        rw [gI_sI, if_neg (by decide), hM.1.2.2.1, s6]
