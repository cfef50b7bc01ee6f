/-! back, reading -/
theorem WF_n {A : AS} {n : Nat} (h : WF A) (hn : n ≤ aN A) : WF (setS A 7 n) := by
  obtain ⟨h1, ⟨h2, h3, h4, h6⟩, h5⟩ := h
  refine ⟨?_, ⟨h2, h3, fun i hi => h4 i (Nat.lt_of_lt_of_le hi hn), h6⟩, h5⟩
  rcases h1 with ⟨a, b, c, d, e, f, g, m⟩ | ⟨a, b, c, d, e, f, g, m, k, l, q⟩
  · exact Or.inl ⟨a, b, c, d, e, f, g, by show n = 0; omega⟩
  · exact Or.inr ⟨a, b, c, d, e, f, g, m, k, l, by show n ≤ 8; omega⟩
theorem RC_n {A : AS} {σ : PS} {n : Nat} (h : RC A σ) (hn : n ≤ aN A) : RC (setS A 7 n) (sI σ 899 (nI n)) := by
  obtain ⟨⟨a1, a2, a3, a4, a5, a6, a7⟩, h2, ⟨h4, h5⟩, h6, h7, h8⟩ := h
  refine ⟨⟨a1, a2, a3, a4, a5, a6, a7⟩, h2, ⟨?_, fun i hi => h5 i (Nat.lt_of_lt_of_le hi hn)⟩, h6, h7, fun k hk => ⟨?_, ?_, (h8 k hk).2.2⟩⟩
  · rw [gI_sI, if_pos rfl]; rfl
  · rw [gI_sI, if_neg (by omega)]; exact (h8 k hk).1
  · rw [gI_sI, if_neg (by omega)]; exact (h8 k hk).2.1
theorem RM_n {A : AS} {σ : PS} {n : Nat} (h : RM A σ) (hn : n ≤ aN A) : RM (setS A 7 n) (sI σ 1241 (nI n)) := by
  obtain ⟨⟨a1, a2, a3, a4, a5, a6, a7, a8⟩, h2, ⟨h4, h5⟩, h6, h7, h8⟩ := h
  refine ⟨⟨a1, a2, a3, a4, a5, a6, a7, a8⟩, h2, ⟨?_, fun i hi => h5 i (Nat.lt_of_lt_of_le hi hn)⟩, h6, h7, h8⟩
  rw [gI_sI, if_pos rfl]; rfl
theorem pr_back (σ : PS) (h : Rel σ) (p0 : Int32) : Pair (F_X4_back p0) (F_X5_back p0) σ := pair_of h fun A hW => by
  have hb := (wf_b hW).2.2.2.2.1
  cases hr : inR p0 0 (aN A) with
  | false =>
    refine ⟨-2, A, hW, ansC_q fun σ hC => ?_, ansM_q fun σ hM => ?_⟩
    · unfold F_X4_back F_X0_count
      rw [Option.bind_some]
      dsimp only
      rw [hC.2.2.1.1, show F_X4_within p0 0 (nI (aN A)) σ = F_X4_within p0 (nI 0) (nI (aN A)) σ from rfl, e_within, hr]; rfl
    · unfold F_X5_back
      rw [hM.2.2.1.1, nI_l (n := aN A) (by omega), show (0 : Int64) = lN 0 from rfl, e_inR _ 0 _ (by decide) (by omega), hr]; rfl
  | true =>
    obtain ⟨v, hv, rfl⟩ := inR_ex hr (by omega)
    have e : nI (aN A) - nI v = nI (aN A - v) := pk_sub hv
    refine ⟨nI (aN A - v), setS A 7 (aN A - v), WF_n hW (by omega), ansC_mk fun σ hC => ⟨sI σ 899 (nI (aN A - v)), ?_, RC_n hC (by omega), eqM_sI (by decide)⟩, ansM_mk fun σ hM => ⟨sI σ 1241 (nI (aN A - v)), ?_, RM_n hM (by omega), eqC_sI (by decide)⟩⟩
    · unfold F_X4_back F_X0_count
      rw [Option.bind_some]
      dsimp only
      rw [hC.2.2.1.1, show F_X4_within (nI v) 0 (nI (aN A)) σ = F_X4_within (nI v) (nI 0) (nI (aN A)) σ from rfl, e_within, hr, Option.bind_some]
      dsimp only
      rw [cNe_bI, cond_true, Option.bind_some]
      dsimp only
      unfold F_X0_keep
      rw [Option.bind_some]
      dsimp only
      rw [Option.bind_some]
      dsimp only
      rw [hC.2.2.1.1, e, gI_sI, if_pos rfl]
    · unfold F_X5_back
      rw [hM.2.2.1.1, nI_l (n := aN A) (by omega), show (0 : Int64) = lN 0 from rfl, e_inR _ 0 _ (by decide) (by omega), hr, Option.bind_some]
      dsimp only
      rw [cNe_bI, cond_true, hM.2.2.1.1, e, gI_sI, if_pos rfl]
def addR (A : AS) (k h v : Nat) : AS := setS (setN (setN (setN A 3 (aN A) k) 4 (aN A) h) 5 (aN A) v) 7 (aN A + 1)
theorem WF_r {A : AS} {k h v : Nat} (hW : WF A) (hn : aN A < 8) (hk : k < aK A) (hh : h ≤ 9) (hv : v ≤ 20) : WF (addR A k h v) := by
  obtain ⟨h1, ⟨h2, h3, h4, h6⟩, h5⟩ := hW
  refine ⟨?_, ⟨h2, h3, fun i hi => ?_, h6⟩, h5⟩
  · rcases h1 with ⟨a, b, c, d, e, f, g, m⟩ | ⟨a, b, c, d, e, f, g, m, q, l, r⟩
    · omega
    · exact Or.inr ⟨a, b, c, d, e, f, g, m, q, l, by show aN A + 1 ≤ 8; omega⟩
  · have hi : i < aN A + 1 := hi
    refine ⟨?_, ?_, ?_⟩
    · show (if i = aN A then k else aRo A i) < aK A
      split
      · exact hk
      · exact (h4 i (by omega)).1
    · show (if i = aN A then h else aRa A i) ≤ 9
      split
      · exact hh
      · exact (h4 i (by omega)).2.1
    · show (if i = aN A then v else aRw A i) ≤ 20
      split
      · exact hv
      · exact (h4 i (by omega)).2.2
theorem RC_r {A : AS} {σ : PS} {k h v : Nat} (hC : RC A σ) : RC (addR A k h v) (sI (sA (sA (sA σ 15 (aN A) (nI k)) 16 (aN A) (nI h)) 17 (aN A) (nI v)) 899 (nI (aN A + 1))) := by
  obtain ⟨⟨a1, a2, a3, a4, a5, a6, a7⟩, ⟨h2, h3⟩, ⟨h4, h5⟩, h6, h7, h8⟩ := hC
  refine ⟨⟨a1, a2, a3, a4, a5, a6, a7⟩, ⟨fun i hi => ?_, fun q hq => ?_⟩, ⟨?_, fun i hi => ⟨?_, ?_, ?_⟩⟩, h6, h7, fun q hq => ⟨?_, ?_, fun i hi => ?_⟩⟩
  · rw [gA_sI, gA_sA, if_neg (by omega), gA_sA, if_neg (by omega), gA_sA, if_neg (by omega)]; exact h2 i hi
  · rw [gA_sI, gA_sA, if_neg (by omega), gA_sA, if_neg (by omega), gA_sA, if_neg (by omega), gA_sI, gA_sA, if_neg (by omega), gA_sA, if_neg (by omega), gA_sA, if_neg (by omega)]; exact h3 q hq
  · rw [gI_sI, if_pos rfl]; rfl
  · rw [show gA (sI (sA (sA (sA σ 15 (aN A) (nI k)) 16 (aN A) (nI h)) 17 (aN A) (nI v)) 899 (nI (aN A + 1))) 15 i = if i = aN A then nI k else gA σ 15 i by simp [gA_sI, gA_sA]]
    show _ = nI (if i = aN A then k else aRo A i)
    have hi : i < aN A + 1 := hi
    by_cases e : i = aN A
    · rw [if_pos e, if_pos e]
    · rw [if_neg e, if_neg e]; exact (h5 i (by omega)).1
  · rw [show gA (sI (sA (sA (sA σ 15 (aN A) (nI k)) 16 (aN A) (nI h)) 17 (aN A) (nI v)) 899 (nI (aN A + 1))) 16 i = if i = aN A then nI h else gA σ 16 i by simp [gA_sI, gA_sA]]
    show _ = nI (if i = aN A then h else aRa A i)
    have hi : i < aN A + 1 := hi
    by_cases e : i = aN A
    · rw [if_pos e, if_pos e]
    · rw [if_neg e, if_neg e]; exact (h5 i (by omega)).2.1
  · rw [show gA (sI (sA (sA (sA σ 15 (aN A) (nI k)) 16 (aN A) (nI h)) 17 (aN A) (nI v)) 899 (nI (aN A + 1))) 17 i = if i = aN A then nI v else gA σ 17 i by simp [gA_sI, gA_sA]]
    show _ = nI (if i = aN A then v else aRw A i)
    have hi : i < aN A + 1 := hi
    by_cases e : i = aN A
    · rw [if_pos e, if_pos e]
    · rw [if_neg e, if_neg e]; exact (h5 i (by omega)).2.2
  · rw [gI_sI, if_neg (by omega)]; exact (h8 q hq).1
  · rw [gI_sI, if_neg (by omega)]; exact (h8 q hq).2.1
  · rw [gA_sI, gA_sA, if_neg (by omega), gA_sA, if_neg (by omega), gA_sA, if_neg (by omega)]; exact (h8 q hq).2.2 i hi
theorem RM_r {A : AS} {σ : PS} {k h v : Nat} (hM : RM A σ) : RM (addR A k h v) (sI (sA (sA (sA σ 27 (aN A) (nI k)) 28 (aN A) (nI h)) 29 (aN A) (nI v)) 1241 (nI (aN A + 1))) := by
  obtain ⟨⟨a1, a2, a3, a4, a5, a6, a7, a8⟩, ⟨h2, h3⟩, ⟨h4, h5⟩, h6, h7, h8⟩ := hM
  refine ⟨⟨a1, a2, a3, a4, a5, a6, a7, a8⟩, ⟨fun i hi => ?_, fun q hq => ?_⟩, ⟨?_, fun i hi => ⟨?_, ?_, ?_⟩⟩, h6, h7, fun q hq => ⟨?_, ?_, fun i hi => ?_⟩⟩
  · rw [gA_sI, gA_sA, if_neg (by omega), gA_sA, if_neg (by omega), gA_sA, if_neg (by omega)]; exact h2 i hi
  · rw [gA_sI, gA_sA, if_neg (by omega), gA_sA, if_neg (by omega), gA_sA, if_neg (by omega), gA_sI, gA_sA, if_neg (by omega), gA_sA, if_neg (by omega), gA_sA, if_neg (by omega)]; exact h3 q hq
  · rw [gI_sI, if_pos rfl]; rfl
  · rw [show gA (sI (sA (sA (sA σ 27 (aN A) (nI k)) 28 (aN A) (nI h)) 29 (aN A) (nI v)) 1241 (nI (aN A + 1))) 27 i = if i = aN A then nI k else gA σ 27 i by simp [gA_sI, gA_sA]]
    show _ = nI (if i = aN A then k else aRo A i)
    have hi : i < aN A + 1 := hi
    by_cases e : i = aN A
    · rw [if_pos e, if_pos e]
    · rw [if_neg e, if_neg e]; exact (h5 i (by omega)).1
  · rw [show gA (sI (sA (sA (sA σ 27 (aN A) (nI k)) 28 (aN A) (nI h)) 29 (aN A) (nI v)) 1241 (nI (aN A + 1))) 28 i = if i = aN A then nI h else gA σ 28 i by simp [gA_sI, gA_sA]]
    show _ = nI (if i = aN A then h else aRa A i)
    have hi : i < aN A + 1 := hi
    by_cases e : i = aN A
    · rw [if_pos e, if_pos e]
    · rw [if_neg e, if_neg e]; exact (h5 i (by omega)).2.1
  · rw [show gA (sI (sA (sA (sA σ 27 (aN A) (nI k)) 28 (aN A) (nI h)) 29 (aN A) (nI v)) 1241 (nI (aN A + 1))) 29 i = if i = aN A then nI v else gA σ 29 i by simp [gA_sI, gA_sA]]
    show _ = nI (if i = aN A then v else aRw A i)
    have hi : i < aN A + 1 := hi
    by_cases e : i = aN A
    · rw [if_pos e, if_pos e]
    · rw [if_neg e, if_neg e]; exact (h5 i (by omega)).2.2
  · rw [gA_sI, gA_sA, if_neg (by omega), gA_sA, if_neg (by omega), gA_sA, if_neg (by omega)]; exact (h8 q hq).1
  · rw [gA_sI, gA_sA, if_neg (by omega), gA_sA, if_neg (by omega), gA_sA, if_neg (by omega)]; exact (h8 q hq).2.1
  · rw [gA_sI, gA_sA, if_neg (by omega), gA_sA, if_neg (by omega), gA_sA, if_neg (by omega)]; exact (h8 q hq).2.2 i hi
theorem pr_reading (σ : PS) (h : Rel σ) (p0 p1 p2 : Int32) : Pair (F_X4_reading p0 p1 p2) (F_X5_reading p0 p1 p2) σ := pair_of h fun A hW => by
  have hb := (wf_b hW).2.2.1
  have hb8 := (wf_b hW).2.2.2.2.1
  cases hv : vin p0 (aK A) with
  | false =>
    refine ⟨-1, A, hW, ansC_q fun σ hC => ?_, ansM_q fun σ hM => ?_⟩
    · unfold F_X4_reading
      rw [e_isLooker hW hC, hv]; rfl
    · unfold F_X5_reading
      rw [e_noLooker hW hM, hv]; rfl
  | true =>
    obtain ⟨j, hj, rfl⟩ := vin_ex hv (by omega)
    cases hr : inR p1 0 9 with
    | false =>
      refine ⟨-2, A, hW, ansC_q fun σ hC => ?_, ansM_q fun σ hM => ?_⟩
      · unfold F_X4_reading
        rw [e_isLooker hW hC, hv, Option.bind_some]
        dsimp only
        rw [cNe_bI, cond_true, e_isDigit, hr]; rfl
      · unfold F_X5_reading
        rw [e_noLooker hW hM, hv, Option.bind_some]
        dsimp only
        rw [cEq_bI, Bool.not_true, Bool.not_false, cond_true, show (0 : Int64) = lN 0 from rfl, show (9 : Int64) = lN 9 from rfl, e_inR p1 0 9 (by decide) (by decide), hr]; rfl
    | true =>
      obtain ⟨hh, hh9, rfl⟩ := inR_ex hr (by decide)
      have eC : ∀ σ, RC A σ → F_X4_reading (nI j) (nI hh) p2 σ = bif inR p2 0 20 then (bif decide (aN A < 8) then (F_X0_add (nI j) (nI hh) p2 σ).bind fun q => some (q.1, q.2) else some (-4, σ)) else some (-2, σ) := by
        intro σ hC
        unfold F_X4_reading
        rw [e_isLooker hW hC, hv, Option.bind_some]
        dsimp only
        rw [cNe_bI, cond_true, e_isDigit, hr, Option.bind_some]
        dsimp only
        rw [cEq_bI, Bool.not_true, cond_false, show F_X4_within p2 0 20 σ = F_X4_within p2 (nI 0) (nI 20) σ from rfl, e_within, Option.bind_some]
        dsimp only
        rw [cNe_bI]
        cases inR p2 0 20 with
        | false => rfl
        | true =>
          rw [cond_true, cond_true]
          unfold F_X0_areFull
          rw [hC.2.2.1.1, show (8 : Int32) = nI 8 from rfl, cLt_nI (by omega) (by decide)]
          cases decide (aN A < 8) <;> rfl
      have eM : ∀ σ, RM A σ → F_X5_reading (nI j) (nI hh) p2 σ = bif inR p2 0 20 then (bif decide (aN A < 8) then some (nI (aN A), sI (sA (sA (sA σ 27 (aN A) (nI j)) 28 (aN A) (nI hh)) 29 (aN A) p2) 1241 (nI (aN A + 1))) else some (-4, σ)) else some (-2, σ) := by
        intro σ hM
        unfold F_X5_reading
        rw [e_noLooker hW hM, hv, Option.bind_some]
        dsimp only
        rw [cEq_bI, Bool.not_true, Bool.not_false, cond_true, show (0 : Int64) = lN 0 from rfl, show (9 : Int64) = lN 9 from rfl, show (20 : Int64) = lN 20 from rfl, e_inR _ 0 9 (by decide) (by decide), hr, Option.bind_some]
        dsimp only
        rw [cEq_bI, Bool.not_true, cond_false, e_inR p2 0 20 (by decide) (by decide), Option.bind_some]
        dsimp only
        rw [cNe_bI]
        cases inR p2 0 20 with
        | false => rfl
        | true =>
          rw [cond_true, cond_true]
          simp only [gI_sA, gI_sI, if_true]
          rw [hM.2.2.1.1, show (8 : Int32) = nI 8 from rfl, cNe_nI (by omega) (by decide)]
          by_cases h8 : aN A < 8
          · rw [decide_eq_true h8, decide_eq_false (by omega), Bool.not_false, cond_true, cond_true, vin_of_lt h8 (by decide), cond_true, cond_true, cond_true, tn (by omega), nI_1, nI_pred]
          · rw [decide_eq_false h8, decide_eq_true (by omega)]; rfl
      cases hr2 : inR p2 0 20 with
      | false => exact ⟨-2, A, hW, ansC_q fun σ hC => (eC σ hC).trans (by rw [hr2]; rfl), ansM_q fun σ hM => (eM σ hM).trans (by rw [hr2]; rfl)⟩
      | true =>
        obtain ⟨v, hv20, rfl⟩ := inR_ex hr2 (by decide)
        by_cases h8 : aN A < 8
        · refine ⟨nI (aN A), addR A j hh v, WF_r hW h8 hj hh9 hv20, ansC_mk fun σ hC => ⟨_, (eC σ hC).trans ?_, RC_r hC, (((eqM_sA (by decide)).tr (eqM_sA (by decide))).tr (eqM_sA (by decide))).tr (eqM_sI (by decide))⟩, ansM_mk fun σ hM => ⟨_, (eM σ hM).trans (by rw [hr2, decide_eq_true h8]; rfl), RM_r hM, (((eqC_sA (by decide)).tr (eqC_sA (by decide))).tr (eqC_sA (by decide))).tr (eqC_sI (by decide))⟩⟩
          rw [hr2, decide_eq_true h8, cond_true, cond_true]
          unfold F_X0_add
          rw [hC.2.2.1.1, e_setNumber _ _ _ (by decide), vin_of_lt h8 (by decide), cond_true, Option.bind_some]
          dsimp only
          rw [gI_sA, hC.2.2.1.1, e_setNumber _ _ _ (by decide), vin_of_lt h8 (by decide), cond_true, Option.bind_some]
          dsimp only
          rw [gI_sA, gI_sA, hC.2.2.1.1, e_setNumber _ _ _ (by decide), vin_of_lt h8 (by decide), cond_true, Option.bind_some]
          dsimp only
          rw [gI_sA, gI_sA, gI_sA, hC.2.2.1.1, tn (by omega), nI_1]; rfl
        · exact ⟨-4, A, hW, ansC_q fun σ hC => (eC σ hC).trans (by rw [hr2, decide_eq_false h8]; rfl), ansM_q fun σ hM => (eM σ hM).trans (by rw [hr2, decide_eq_false h8]; rfl)⟩
