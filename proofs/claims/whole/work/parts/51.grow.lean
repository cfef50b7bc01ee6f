/-! the pairs of grow, step, many -/
def setT (A : AS) (n : Int32) : AS := (A.1, A.2.1, va_up A.2.2.1 1 n, A.2.2.2)
theorem RC_step {A : AS} {σ : PS} (c r S : Nat) (n : Int32) (h : RC A σ) : RC (setT (setP A c r S) n) (sI (sL (sI σ 647 (nI (aW A * r + c))) 648 (lN S)) 649 n) := by
  obtain ⟨⟨a1, a2, a3, a4, a5, a6, a7⟩, h2, ⟨h4, h5⟩, h6, h7, h8⟩ := h
  refine ⟨⟨?_, ?_, ?_, ?_, ?_, ?_, ?_⟩, h2, ⟨?_, h5⟩, ?_, ?_, fun k hk => ⟨?_, ?_, (h8 k hk).2.2⟩⟩
  · rw [gI_sI, if_neg (by decide), gI_sL, gI_sI, if_neg (by decide)]; exact a1
  · rw [gI_sI, if_neg (by decide), gI_sL, gI_sI, if_neg (by decide)]; exact a2
  · rw [gI_sI, if_neg (by decide), gI_sL, gI_sI, if_neg (by decide)]; exact a3
  · rw [gI_sI, if_neg (by decide), gI_sL, gI_sI, if_neg (by decide)]; exact a4
  · rw [gI_sI, if_neg (by decide), gI_sL, gI_sI, if_pos rfl]; rfl
  · rw [gL_sI, gL_sL, if_pos rfl]; rfl
  · rw [gI_sI, if_pos rfl]; rfl
  · rw [gI_sI, if_neg (by decide), gI_sL, gI_sI, if_neg (by decide)]; exact h4
  · rw [gI_sI, if_neg (by decide), gI_sL, gI_sI, if_neg (by decide)]; exact h6
  · rw [gI_sI, if_neg (by decide), gI_sL, gI_sI, if_neg (by decide)]; exact h7
  · rw [gI_sI, if_neg (by omega), gI_sL, gI_sI, if_neg (by omega)]; exact (h8 k hk).1
  · rw [gI_sI, if_neg (by omega), gI_sL, gI_sI, if_neg (by omega)]; exact (h8 k hk).2.1
theorem RM_T {A : AS} {σ : PS} (n : Int32) (h : RM A σ) : RM (setT A n) (sI σ 1222 n) := by
  obtain ⟨⟨a1, a2, a3, a4, a5, a6, a7, a8⟩, h2, ⟨h4, h5⟩, h6, h7, h8⟩ := h
  refine ⟨⟨a1, a2, a3, a4, a5, ?_, a7, a8⟩, h2, ⟨h4, h5⟩, h6, h7, h8⟩
  rw [gI_sI, if_pos rfl]; rfl
theorem WF_T {A : AS} (n : Int32) (h : WF A) : WF (setT A n) := h
theorem S_40 {A : AS} (hW : WF A) : aS A < 2 ^ 40 := by
  rcases hW.1 with ⟨a, b, c, d, e, f, g, m⟩ | ⟨a, b, c, d, e, f, g, m, q, l, r⟩
  · rw [g]; decide
  · refine Nat.lt_of_lt_of_le l (Nat.pow_le_pow_right (by decide) ?_)
    have := (wf_b hW).2.2.2.1
    omega
theorem e_step4 (p : Int32) (σ : PS) : F_X5_in p.toInt64 0 3 σ = some (bI (inR p 0 3), σ) := e_inR p 0 3 (by decide) (by decide) σ
theorem pr_step (σ : PS) (h : Rel σ) (p0 : Int32) : Pair (F_X4_step p0) (F_X5_step p0) σ := pair_of h fun A hW => by
  have hb := wf_b hW
  have hS := S_40 hW
  cases hv : inR p0 0 3 with
  | false =>
    refine ⟨-2, A, hW, ansC_q fun σ hC => ?_, ansM_q fun σ hM => ?_⟩
    · unfold F_X4_step
      exact bd (e_isStep p0 σ) (cnd_f (nf hv) rfl)
    · unfold F_X5_step
      exact bd (e_step4 p0 σ) (cnd_f (nf hv) rfl)
  | true =>
    obtain ⟨s, hs, rfl⟩ := inR_ex hv (by decide)
    by_cases hn : aW A = 0
    · refine ⟨-3, A, hW, ansC_q fun σ hC => ?_, ansM_q fun σ hM => ?_⟩
      · unfold F_X4_step
        exact bd (e_isStep _ σ) (cnd_t (nt hv) (bd (e_exists hW hC) (cnd_f (nf (by rw [dt hn]; rfl)) rfl)))
      · unfold F_X5_step
        refine bd (e_step4 _ σ) (cnd_t (nt hv) ?_)
        dsimp only
        rw [hM.1.2.2.2.2.2.2.2]
        refine bd (e_bits hS σ) (cnd_t ?_ rfl)
        dsimp only
        rw [hM.1.2.2.1, (wf_K hW).mpr hn]; rfl
    · have hK : aK A ≠ 0 := fun q => hn ((wf_K hW).mp q)
      have hw := wf_n hW hn
      have eN : ∀ σ, RC A σ → F_X1_nextPlace (nI (aP A)) (nI s) σ = some (bif okA A s then nI (aW A * stR s (aR A) + stC s (aC A)) else -9, σ) := fun σ hC => e_next hW hn hC hw.2.2.2.2.2.2.1 hw.2.2.2.2.2.2.2.1 (by omega)
      cases ho : okA A s with
      | false =>
        refine ⟨-3, A, hW, ansC_q fun σ hC => ?_, ansM_q fun σ hM => ?_⟩
        · unfold F_X4_step
          refine bd (e_isStep _ σ) (cnd_t (nt hv) (bd (e_exists hW hC) (cnd_t (nt (by rw [df hn]; rfl)) ?_)))
          unfold F_X1_place
          dsimp only
          rw [hC.1.2.2.2.2.1]
          refine bd rfl (bd (eN σ hC) ?_)
          rw [ho]; rfl
        · unfold F_X5_step
          refine bd (e_step4 _ σ) (cnd_t (nt hv) ?_)
          dsimp only
          rw [hM.1.2.2.2.2.2.2.2]
          refine bd (e_bits hS σ) (cnd_f ?_ (bd (m_steps hW hn hM (by omega)) ?_))
          · dsimp only
            rw [hM.1.2.2.1]
            exact (cEq_nI (b := 0) (by omega) (by decide)).trans (df hK)
          · rw [ho]; rfl
      | true =>
        obtain ⟨k1, k2⟩ := okS_in ho hw.2.2.2.2.2.2.1 hw.2.2.2.2.2.2.2.1
        have hl := cell_lt (W := aW A) (c := stC s (aC A)) (by omega) k2
        have hW2 := WF_mv hW hn ho
        have hS2 : aS A ||| ovN A (aW A * stR s (aR A) + stC s (aC A)) < 2 ^ 40 := S_40 hW2
        have hne : cNe (nI (aW A * stR s (aR A) + stC s (aC A))) (-9) = true := by
          unfold cNe
          rw [decide_eq_false]; · rfl
          intro q
          have := congrArg Int32.toInt q
          rw [nI_toInt (by omega), show (-9 : Int32).toInt = -9 from by decide] at this
          omega
        refine ⟨nI (popN 40 (aS A ||| ovN A (aW A * stR s (aR A) + stC s (aC A)))) - nI (popN 40 (aS A)), setT (mvA A s) (aSt A + 1), WF_T _ hW2, ansC_mk fun σ hC => ⟨_, ?_, RC_step _ _ _ _ hC, ((eqM_sI (by decide)).tr (eqM_sL (by decide))).tr (eqM_sI (by decide))⟩, ansM_mk fun σ hM => ⟨_, ?_, RM_T (aSt A + 1) (RM_mv s hM), (((eqC_sI (by decide)).tr (eqC_sI (by decide))).tr (eqC_sL (by decide))).tr (eqC_sI (by decide))⟩⟩
        · unfold F_X4_step
          refine bd (e_isStep _ σ) (cnd_t (nt hv) (bd (e_exists hW hC) (cnd_t (nt (by rw [df hn]; rfl)) ?_)))
          unfold F_X1_place
          dsimp only
          rw [hC.1.2.2.2.2.1]
          refine bd rfl (bd (eN σ hC) ?_)
          rw [ho]
          refine cnd_t hne ?_
          dsimp only [cond_true]
          unfold F_X1_seenCells F_X1_moveTo
          rw [hC.1.2.2.2.2.2.1]
          refine bd rfl (bd (jlbits hS σ) ?_)
          have hs1 : F_X1_seenFrom (gI (sI σ 647 (nI (aW A * stR s (aR A) + stC s (aC A)))) 647) (sI σ 647 (nI (aW A * stR s (aR A) + stC s (aC A)))) = some (lN (ovN A (aW A * stR s (aR A) + stC s (aC A))), sI σ 647 (nI (aW A * stR s (aR A) + stC s (aC A)))) := by
            have e := e_seenFrom hW hC (P := aW A * stR s (aR A) + stC s (aC A)) (by omega)
            unfold F_X1_seenFrom at e ⊢
            rw [gI_sI, gI_sI, if_pos rfl, if_neg (by decide)]
            have e2 := congrArg (fun o => o.map Prod.fst) e
            simp only [Option.map_some, Option.some.injEq] at e2
            rw [e2]
          rw [hs1]
          refine bd (a := ()) rfl ?_
          refine bd rfl ?_
          dsimp only
          rw [gL_sI, gL_sL, if_pos rfl, gL_sI, hC.1.2.2.2.2.2.1, fb_orL]
          refine bd (jlbits hS2 _) ?_
          dsimp only
          rw [gI_sL, gI_sI, if_neg (by decide), hC.1.2.2.2.2.2.2]
        · unfold F_X5_step
          refine bd (e_step4 _ σ) (cnd_t (nt hv) ?_)
          dsimp only
          rw [hM.1.2.2.2.2.2.2.2]
          refine bd (e_bits hS σ) (cnd_f ?_ (bd (m_steps hW hn hM (by omega)) ?_))
          · dsimp only
            rw [hM.1.2.2.1]
            exact (cEq_nI (b := 0) (by omega) (by decide)).trans (df hK)
          · rw [ho]
            refine cnd_t (nt rfl) ?_
            dsimp only [cond_true]
            have hM2 := RM_mv s hM
            rw [gL_sI, hM2.1.2.2.2.2.2.2.2]
            refine bd (e_bits hS2 _) ?_
            rw [hM2.1.2.2.2.2.2.1]; rfl
theorem pr_many (σ : PS) (h : Rel σ) (p0 : Int32) : Pair (F_X4_many p0) (F_X5_many p0) σ := pair_of h fun A hW => by
  have hS := S_40 hW
  refine ⟨bif decide (p0 = 0) then nI (aW A) else bif decide (p0 = 1) then nI (aT A) else bif decide (p0 = 2) then nI (aK A) else bif decide (p0 = 3) then nI (aP A) else bif decide (p0 = 4) then aSt A else bif decide (p0 = 5) then nI (popN 40 (aS A)) else bif decide (p0 = 6) then nI (aN A) else -2, A, hW, ansC_q fun σ hC => ?_, ansM_q fun σ hM => ?_⟩
  · unfold F_X4_many F_X1_columns F_X1_rows F_X1_lookers F_X1_place F_X1_stepsDone F_X1_seenCells F_X0_count
    rw [hC.1.1, hC.1.2.1, hC.1.2.2.1, hC.1.2.2.2.2.1, hC.1.2.2.2.2.2.1, hC.1.2.2.2.2.2.2, hC.2.2.1.1]
    simp only [Option.bind_some, jlbits hS]
    cases decide (p0 = 0) <;> cases decide (p0 = 1) <;> cases decide (p0 = 2) <;> cases decide (p0 = 3) <;> cases decide (p0 = 4) <;> cases decide (p0 = 5) <;> cases decide (p0 = 6) <;> rfl
  · unfold F_X5_many
    rw [show (0 : Int32) = nI 0 from rfl, e_placeOf hM, hM.1.1, hM.1.2.1, hM.1.2.2.1, hM.1.2.2.2.2.2.1, hM.1.2.2.2.2.2.2.2, hM.2.2.1.1, Nat.add_zero]
    simp only [Option.bind_some, e_bits hS]
    cases decide (p0 = nI 0) <;> cases decide (p0 = 1) <;> cases decide (p0 = 2) <;> cases decide (p0 = 3) <;> cases decide (p0 = 4) <;> cases decide (p0 = 5) <;> cases decide (p0 = 6) <;> rfl
