/-! the pair of grow -/
theorem gw_0x : ∀ K, K < 5 → ∀ G, G < 16 → ∀ k, k < 4 → k < K → G < 2 ^ K → (!G.testBit k || decide ((nI ((2 ^ K - 1) ^^^ G) ||| shl 1 (nI k)) = nI ((2 ^ K - 1) ^^^ (G ^^^ 2 ^ k)))) = true := by decide +kernel
theorem gw_0 (K : Nat) (h1 : K < 5) (G : Nat) (h2 : G < 16) (k : Nat) (h3 : k < 4) (h4 : k < K) (h5 : G < 2 ^ K) (h6 : G.testBit k = true) : (nI ((2 ^ K - 1) ^^^ G) ||| shl 1 (nI k)) = nI ((2 ^ K - 1) ^^^ (G ^^^ 2 ^ k)) := by
  have s := gw_0x K h1 G h2 k h3 h4 h5
  rw [h6] at s
  exact of_decide_eq_true s
theorem gw_1x : ∀ K, K < 5 → ∀ G, G < 16 → ∀ k, k < 4 → k < K → G < 2 ^ K → (!G.testBit k || decide (((nI G) &&& ((shl 1 (nI k)) ^^^ (-1))) = nI (G ^^^ 2 ^ k))) = true := by decide +kernel
theorem gw_1 (K : Nat) (h1 : K < 5) (G : Nat) (h2 : G < 16) (k : Nat) (h3 : k < 4) (h4 : k < K) (h5 : G < 2 ^ K) (h6 : G.testBit k = true) : ((nI G) &&& ((shl 1 (nI k)) ^^^ (-1))) = nI (G ^^^ 2 ^ k) := by
  have s := gw_1x K h1 G h2 k h3 h4 h5
  rw [h6] at s
  exact of_decide_eq_true s
theorem gw_2 : ∀ K, K < 5 → ∀ G, G < 16 → ∀ k, k < 4 → k < K → G < 2 ^ K → G ^^^ 2 ^ k < 2 ^ K := by decide +kernel
theorem gw_3 : ∀ K, K < 5 → ∀ G, G < 16 → ∀ k, k < 4 → k < K → G < 2 ^ K → G ^^^ 2 ^ k < 16 := by decide +kernel
theorem gw_4 : ∀ K, K < 5 → ∀ G, G < 16 → ∀ k, k < 4 → k < K → G < 2 ^ K → (2 ^ K - 1) ^^^ (G ^^^ 2 ^ k) < 16 := by decide +kernel
theorem gw_5 : ∀ K, K < 5 → ∀ G, G < 16 → ∀ k, k < 4 → k < K → G < 2 ^ K → nI K - nI (popN 4 (G ^^^ 2 ^ k)) = nI (popN 4 ((2 ^ K - 1) ^^^ (G ^^^ 2 ^ k))) := by decide +kernel
theorem RC_S {A : AS} {σ : PS} (S : Nat) (h : RC A σ) : RC (setS A 6 S) (sL σ 648 (lN S)) := by
  obtain ⟨⟨a1, a2, a3, a4, a5, a6, a7⟩, h2, ⟨h4, h5⟩, h6, h7, h8⟩ := h
  refine ⟨⟨a1, a2, a3, a4, a5, ?_, a7⟩, h2, ⟨h4, h5⟩, h6, h7, h8⟩
  rw [gL_sL, if_pos rfl]; rfl
theorem RM_S {A : AS} {σ : PS} (S : Nat) (h : RM A σ) : RM (setS A 6 S) (sL σ 1224 (lN S)) := by
  obtain ⟨⟨a1, a2, a3, a4, a5, a6, a7, a8⟩, h2, ⟨h4, h5⟩, h6, h7, h8⟩ := h
  refine ⟨⟨a1, a2, a3, a4, a5, a6, a7, ?_⟩, h2, ⟨h4, h5⟩, h6, h7, h8⟩
  rw [gL_sL, if_pos rfl]; rfl
theorem WF_S {A : AS} {S : Nat} (h : WF A) (hn : aW A ≠ 0) (hS : S < 2 ^ (aW A * aT A)) : WF (setS A 6 S) := by
  have hw := wf_n h hn
  exact ⟨Or.inr ⟨hw.1, hw.2.1, hw.2.2.1, hw.2.2.2.1, hw.2.2.2.2.1, hw.2.2.2.2.2.1, hw.2.2.2.2.2.2.1, hw.2.2.2.2.2.2.2.1, hw.2.2.2.2.2.2.2.2.1, hS, hw.2.2.2.2.2.2.2.2.2.2⟩, h.2.1, h.2.2⟩
theorem pr_grow (σ : PS) (h : Rel σ) (p0 : Int32) : Pair (F_X4_grow p0) (F_X5_grow p0) σ := pair_of h fun A hW => by
  have hb := (wf_b hW).2.2.1
  have hb6 := (wf_b hW).2.2.2.1
  cases hv : vin p0 (aK A) with
  | false =>
    refine ⟨-1, A, hW, ansC_q fun σ hC => ?_, ansM_q fun σ hM => ?_⟩
    · unfold F_X4_grow
      exact bd (e_isLooker hW hC p0) (cnd_f (nf hv) rfl)
    · unfold F_X5_grow
      exact bd (e_noLooker hW hM p0) (cnd_f (et (by rw [hv]; rfl)) rfl)
  | true =>
    obtain ⟨j, hj, rfl⟩ := vin_ex hv (by omega)
    obtain ⟨g1, g2⟩ := wf_G hW
    have hn : aW A ≠ 0 := fun q => by have := (wf_K hW).mpr q; omega
    have hP := wf_P hW hj
    cases ht : (aG A).testBit j with
    | false =>
      refine ⟨-3, A, hW, ansC_q fun σ hC => ?_, ansM_q fun σ hM => ?_⟩
      · unfold F_X4_grow
        exact bd (e_isLooker hW hC _) (cnd_t (nt hv) (bd (e_isGone hW hC hj) (cnd_f (nf ht) rfl)))
      · unfold F_X5_grow
        refine bd (e_noLooker hW hM _) (cnd_t (ef (by rw [hv]; rfl)) ?_)
        dsimp only
        rw [hM.1.2.2.2.2.2.2.1]
        exact bd (e_isIn hW (σ := σ) (by omega)) (cnd_f (nf ht) rfl)
    | true =>
      have s1 := gw_0 (aK A) (by omega) (aG A) g1 j (by omega) hj g2 ht
      have s2 := gw_1 (aK A) (by omega) (aG A) g1 j (by omega) hj g2 ht
      have s3 := gw_2 (aK A) (by omega) (aG A) g1 j (by omega) hj g2
      have s4 := gw_3 (aK A) (by omega) (aG A) g1 j (by omega) hj g2
      have s5 := gw_4 (aK A) (by omega) (aG A) g1 j (by omega) hj g2
      have s6 := gw_5 (aK A) (by omega) (aG A) g1 j (by omega) hj g2
      have hW1 : WF (setS A 5 (aG A ^^^ 2 ^ j)) := WF_G hW (by omega) s3
      have hw := wf_n hW hn
      have hO : ovN (setS A 5 (aG A ^^^ 2 ^ j)) (aP A) < 2 ^ (aW A * aT A) := ov_lt hW1 (c := aC A) (r := aR A) hw.2.2.2.2.2.2.1 hw.2.2.2.2.2.2.2.1 hn
      have hW2 : WF (setS (setS A 5 (aG A ^^^ 2 ^ j)) 6 (aS A ||| ovN (setS A 5 (aG A ^^^ 2 ^ j)) (aP A))) := WF_S hW1 hn (Nat.or_lt_two_pow hw.2.2.2.2.2.2.2.2.2.1 hO)
      refine ⟨nI (popN 4 ((2 ^ aK A - 1) ^^^ (aG A ^^^ 2 ^ j))), setS (setS A 5 (aG A ^^^ 2 ^ j)) 6 (aS A ||| ovN (setS A 5 (aG A ^^^ 2 ^ j)) (aP A)), hW2, ansC_mk fun σ hC => ⟨_, ?_, RC_S _ (RC_G (aG A ^^^ 2 ^ j) hC), (eqM_sI (by decide)).tr (eqM_sL (by decide))⟩, ansM_mk fun σ hM => ⟨_, ?_, RM_S _ (RM_G (aG A ^^^ 2 ^ j) hM), (eqC_sI (by decide)).tr (eqC_sL (by decide))⟩⟩
      · have hC1 := RC_G (aG A ^^^ 2 ^ j) hC
        unfold F_X4_grow
        refine bd (e_isLooker hW hC _) (cnd_t (nt hv) (bd (e_isGone hW hC hj) (cnd_t (nt ht) ?_)))
        unfold F_X1_bringBack
        dsimp only
        rw [hC.1.2.2.2.1, show nI (aO A) = nI ((2 ^ aK A - 1) ^^^ aG A) from rfl, s1, hC1.1.2.2.2.2.1, hC1.1.2.2.2.2.2.1]
        refine bd (a := ()) (bd (e_seenFrom hW1 hC1 (P := aP A) (by omega)) rfl) ?_
        dsimp only
        unfold F_X1_lookersLeft
        rw [gI_sL, gI_sI, if_pos rfl, show lN (aS (setS A 5 (aG A ^^^ 2 ^ j))) = lN (aS A) from rfl, fb_orL]
        exact bd (bd (jbits s5 _) rfl) rfl
      · have hM1 := RM_G (aG A ^^^ 2 ^ j) hM
        unfold F_X5_grow
        refine bd (e_noLooker hW hM _) (cnd_t (ef (by rw [hv]; rfl)) ?_)
        dsimp only
        rw [hM.1.2.2.2.2.2.2.1]
        refine bd (e_isIn hW (σ := σ) (by omega)) (cnd_t (nt ht) ?_)
        dsimp only
        rw [hM.1.2.2.2.2.2.2.1, s2]
        refine bd (e_over hW1 hM1) ?_
        dsimp only
        rw [hM1.1.2.2.2.2.2.2.2, gI_sL, gI_sL, gI_sI, if_pos rfl, i64_16 _ s4, show aP (setS A 5 (aG A ^^^ 2 ^ j)) = aP A from rfl, show lN (aS (setS A 5 (aG A ^^^ 2 ^ j))) = lN (aS A) from rfl, fb_orL]
        refine bd (e_bits4 s4 _) ?_
        dsimp only
        rw [gI_sI, if_neg (by decide), hM.1.2.2.1, s6]
