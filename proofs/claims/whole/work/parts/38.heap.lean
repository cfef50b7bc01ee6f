/-! heap, dim -/
def setN (A : AS) (r i v : Nat) : AS := (A.1, va_up A.2.1 r (va_up (A.2.1 r) i v), A.2.2)
def setS (A : AS) (z v : Nat) : AS := (va_up A.1 z v, A.2)
theorem WF_h {A : AS} {j v : Nat} (h : WF A) (hv : v ≤ 9) : WF (setN A 0 j v) := by
  obtain ⟨h1, ⟨h2, h3, h4⟩, h5⟩ := h
  refine ⟨h1, ⟨fun i hi => ?_, h3, h4⟩, h5⟩
  show (if i = j then v else aH A i) ≤ 9
  split
  · exact hv
  · exact h2 i hi
theorem WF_s {A : AS} {j v : Nat} (h : WF A) (hv : v ≤ 9) : WF (setN A 2 j v) := by
  obtain ⟨h1, ⟨h2, h3, h4⟩, h5⟩ := h
  refine ⟨h1, ⟨h2, fun k hk => ⟨(h3 k hk).1, ?_⟩, h4⟩, h5⟩
  show (if k = j then v else aSh A k) ≤ 9
  split
  · exact hv
  · exact (h3 k hk).2
theorem RC_h {A : AS} {σ : PS} {j v : Nat} (h : RC A σ) : RC (setN A 0 j v) (sA σ 11 j (nI v)) := by
  obtain ⟨h1, ⟨h2, h3⟩, ⟨h4, h5⟩, h6, h7, h8⟩ := h
  refine ⟨h1, ⟨fun i hi => ?_, fun k hk => ?_⟩, ⟨h4, fun i hi => ?_⟩, h6, h7, fun k hk => ⟨(h8 k hk).1, (h8 k hk).2.1, fun i hi => ?_⟩⟩
  · rw [gA_sA, if_pos rfl]
    show (if i = j then nI v else gA σ 11 i) = nI (if i = j then v else aH A i)
    split
    · rfl
    · exact h2 i hi
  · rw [gA_sA, if_neg (by omega), gA_sA, if_neg (by omega)]; exact h3 k hk
  · rw [gA_sA, if_neg (by omega), gA_sA, if_neg (by omega), gA_sA, if_neg (by omega)]; exact h5 i hi
  · rw [gA_sA, if_neg (by omega)]; exact (h8 k hk).2.2 i hi
theorem RC_s {A : AS} {σ : PS} {j v : Nat} (h : RC A σ) : RC (setN A 2 j v) (sA σ 13 j (nI v)) := by
  obtain ⟨h1, ⟨h2, h3⟩, ⟨h4, h5⟩, h6, h7, h8⟩ := h
  refine ⟨h1, ⟨fun i hi => ?_, fun k hk => ⟨?_, ?_⟩⟩, ⟨h4, fun i hi => ?_⟩, h6, h7, fun k hk => ⟨(h8 k hk).1, (h8 k hk).2.1, fun i hi => ?_⟩⟩
  · rw [gA_sA, if_neg (by omega)]; exact h2 i hi
  · rw [gA_sA, if_neg (by omega)]; exact (h3 k hk).1
  · rw [gA_sA, if_pos rfl]
    show (if k = j then nI v else gA σ 13 k) = nI (if k = j then v else aSh A k)
    split
    · rfl
    · exact (h3 k hk).2
  · rw [gA_sA, if_neg (by omega), gA_sA, if_neg (by omega), gA_sA, if_neg (by omega)]; exact h5 i hi
  · rw [gA_sA, if_neg (by omega)]; exact (h8 k hk).2.2 i hi
theorem RM_h {A : AS} {σ : PS} {j v : Nat} (h : RM A σ) : RM (setN A 0 j v) (sA σ 20 j (nI v)) := by
  obtain ⟨h1, ⟨h2, h3⟩, ⟨h4, h5⟩, h6, h7, h8⟩ := h
  refine ⟨h1, ⟨fun i hi => ?_, fun k hk => ?_⟩, ⟨h4, fun i hi => ?_⟩, h6, h7, fun k hk => ⟨?_, ?_, fun i hi => ?_⟩⟩
  · rw [gA_sA, if_pos rfl]
    show (if i = j then nI v else gA σ 20 i) = nI (if i = j then v else aH A i)
    split
    · rfl
    · exact h2 i hi
  · rw [gA_sA, if_neg (by omega), gA_sA, if_neg (by omega)]; exact h3 k hk
  · rw [gA_sA, if_neg (by omega), gA_sA, if_neg (by omega), gA_sA, if_neg (by omega)]; exact h5 i hi
  · rw [gA_sA, if_neg (by omega)]; exact (h8 k hk).1
  · rw [gA_sA, if_neg (by omega)]; exact (h8 k hk).2.1
  · rw [gA_sA, if_neg (by omega)]; exact (h8 k hk).2.2 i hi
theorem RM_s {A : AS} {σ : PS} {j v : Nat} (h : RM A σ) : RM (setN A 2 j v) (sA σ 22 j (nI v)) := by
  obtain ⟨h1, ⟨h2, h3⟩, ⟨h4, h5⟩, h6, h7, h8⟩ := h
  refine ⟨h1, ⟨fun i hi => ?_, fun k hk => ⟨?_, ?_⟩⟩, ⟨h4, fun i hi => ?_⟩, h6, h7, fun k hk => ⟨?_, ?_, fun i hi => ?_⟩⟩
  · rw [gA_sA, if_neg (by omega)]; exact h2 i hi
  · rw [gA_sA, if_neg (by omega)]; exact (h3 k hk).1
  · rw [gA_sA, if_pos rfl]
    show (if k = j then nI v else gA σ 22 k) = nI (if k = j then v else aSh A k)
    split
    · rfl
    · exact (h3 k hk).2
  · rw [gA_sA, if_neg (by omega), gA_sA, if_neg (by omega), gA_sA, if_neg (by omega)]; exact h5 i hi
  · rw [gA_sA, if_neg (by omega)]; exact (h8 k hk).1
  · rw [gA_sA, if_neg (by omega)]; exact (h8 k hk).2.1
  · rw [gA_sA, if_neg (by omega)]; exact (h8 k hk).2.2 i hi
theorem inR_ex {p : Int32} {b : Nat} (h : inR p 0 b = true) (hb : b < 2147483648) : ∃ v, v ≤ b ∧ p = nI v := by
  rcases p_cases p with hp | ⟨j, hj, rfl⟩
  · rw [inR_neg hp] at h; cases h
  · rw [inR_pos hj (by decide) hb] at h
    simp only [Bool.and_eq_true, decide_eq_true_eq] at h
    exact ⟨j, h.2, rfl⟩
theorem pr_heap (σ : PS) (h : Rel σ) (p0 p1 : Int32) : Pair (F_X4_heap p0 p1) (F_X5_heap p0 p1) σ := pair_of h fun A hW => by
  have hb := (wf_b hW).2.2.2.1
  cases hv : vin p0 (aW A * aT A) with
  | false =>
    refine ⟨-1, A, hW, ansC_q fun σ hC => ?_, ansM_q fun σ hM => ?_⟩
    · unfold F_X4_heap
      rw [e_isCell hW hC, hv]; rfl
    · unfold F_X5_heap
      rw [e_noPlace hW hM, hv]; rfl
  | true =>
    obtain ⟨j, hj, rfl⟩ := vin_ex hv (by omega)
    cases hr : inR p1 0 9 with
    | false =>
      refine ⟨-2, A, hW, ansC_q fun σ hC => ?_, ansM_q fun σ hM => ?_⟩
      · unfold F_X4_heap
        rw [e_isCell hW hC, hv, Option.bind_some]
        dsimp only
        rw [cNe_bI, cond_true, e_isDigit, hr]; rfl
      · unfold F_X5_heap
        rw [e_noPlace hW hM, hv, Option.bind_some]
        dsimp only
        rw [cEq_bI, Bool.not_true, Bool.not_false, cond_true, show (0 : Int64) = lN 0 from rfl, show (9 : Int64) = lN 9 from rfl, e_inR p1 0 9 (by decide) (by decide), hr]; rfl
    | true =>
      obtain ⟨v, hv9, rfl⟩ := inR_ex hr (by decide)
      refine ⟨nI (aH A j), setN A 0 j v, WF_h hW hv9, ansC_mk fun σ hC => ⟨sA σ 11 j (nI v), ?_, RC_h hC, eqM_sA (by decide)⟩, ansM_mk fun σ hM => ⟨sA σ 20 j (nI v), ?_, RM_h hM, eqC_sA (by decide)⟩⟩
      · unfold F_X4_heap
        rw [e_isCell hW hC, hv, Option.bind_some]
        dsimp only
        rw [cNe_bI, cond_true, e_isDigit, hr, Option.bind_some]
        dsimp only
        rw [cNe_bI, cond_true, e_heightOf hW hC hj, Option.bind_some]
        dsimp only
        unfold F_X1_makeHeight
        rw [e_setNumber _ _ _ (by decide), vin_of_lt (by omega) (by decide), tn (by omega)]; rfl
      · unfold F_X5_heap
        rw [e_noPlace hW hM, hv, Option.bind_some]
        dsimp only
        rw [cEq_bI, Bool.not_true, Bool.not_false, cond_true, show (0 : Int64) = lN 0 from rfl, show (9 : Int64) = lN 9 from rfl, e_inR _ 0 9 (by decide) (by decide), hr, Option.bind_some]
        dsimp only
        rw [cNe_bI, cond_true, vin_of_lt (by omega) (by decide), cond_true, cond_true, tn (by omega), hM.2.1.1 j hj]
theorem pr_dim (σ : PS) (h : Rel σ) (p0 p1 : Int32) : Pair (F_X4_dim p0 p1) (F_X5_dim p0 p1) σ := pair_of h fun A hW => by
  have hb := (wf_b hW).2.2.1
  cases hv : vin p0 (aK A) with
  | false =>
    refine ⟨-1, A, hW, ansC_q fun σ hC => ?_, ansM_q fun σ hM => ?_⟩
    · unfold F_X4_dim
      rw [e_isLooker hW hC, hv]; rfl
    · unfold F_X5_dim
      rw [e_noLooker hW hM, hv]; rfl
  | true =>
    obtain ⟨j, hj, rfl⟩ := vin_ex hv (by omega)
    cases hr : inR p1 0 9 with
    | false =>
      refine ⟨-2, A, hW, ansC_q fun σ hC => ?_, ansM_q fun σ hM => ?_⟩
      · unfold F_X4_dim
        rw [e_isLooker hW hC, hv, Option.bind_some]
        dsimp only
        rw [cNe_bI, cond_true, e_isDigit, hr]; rfl
      · unfold F_X5_dim
        rw [e_noLooker hW hM, hv, Option.bind_some]
        dsimp only
        rw [cEq_bI, Bool.not_true, Bool.not_false, cond_true, show (0 : Int64) = lN 0 from rfl, show (9 : Int64) = lN 9 from rfl, e_inR p1 0 9 (by decide) (by decide), hr]; rfl
    | true =>
      obtain ⟨v, hv9, rfl⟩ := inR_ex hr (by decide)
      refine ⟨nI (aSh A j), setN A 2 j v, WF_s hW hv9, ansC_mk fun σ hC => ⟨sA σ 13 j (nI v), ?_, RC_s hC, eqM_sA (by decide)⟩, ansM_mk fun σ hM => ⟨sA σ 22 j (nI v), ?_, RM_s hM, eqC_sA (by decide)⟩⟩
      · unfold F_X4_dim
        rw [e_isLooker hW hC, hv, Option.bind_some]
        dsimp only
        rw [cNe_bI, cond_true, e_isDigit, hr, Option.bind_some]
        dsimp only
        rw [cNe_bI, cond_true, e_shortOf hW hC hj, Option.bind_some]
        dsimp only
        unfold F_X1_makeShort
        rw [e_setNumber _ _ _ (by decide), vin_of_lt (by omega) (by decide), tn (by omega)]; rfl
      · unfold F_X5_dim
        rw [e_noLooker hW hM, hv, Option.bind_some]
        dsimp only
        rw [cEq_bI, Bool.not_true, Bool.not_false, cond_true, show (0 : Int64) = lN 0 from rfl, show (9 : Int64) = lN 9 from rfl, e_inR _ 0 9 (by decide) (by decide), hr, Option.bind_some]
        dsimp only
        rw [cNe_bI, cond_true, vin_of_lt (by omega) (by decide), cond_true, cond_true, tn (by omega), (hM.2.1.2 j hj).2]
