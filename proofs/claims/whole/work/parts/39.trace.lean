/-! tell, greet, as, back -/
def trN (A : AS) (n : Int32) : AS := (A.1, A.2.1, va_up A.2.2.1 0 (31 * aTr A + n), A.2.2.2)
theorem WF_tr {A : AS} (n : Int32) (h : WF A) : WF (trN A n) := h
theorem setS_setS (A : AS) (z a b : Nat) : setS (setS A z a) z b = setS A z b := by
  unfold setS va_up
  refine Prod.ext ?_ rfl
  funext j
  dsimp only
  split <;> rfl
theorem RC_tr {A : AS} {σ : PS} (n : Int32) (h : RC A σ) : RC (trN A n) (sI σ 4 (31 * gI σ 4 + n)) := by
  obtain ⟨⟨a1, a2, a3, a4, a5, a6, a7⟩, h2, ⟨h4, h5⟩, h6, h7, h8⟩ := h
  refine ⟨⟨a1, a2, a3, a4, a5, a6, ?_⟩, h2, ⟨h4, h5⟩, ?_, h7, fun k hk => ⟨?_, ?_, (h8 k hk).2.2⟩⟩
  · exact a7
  · rw [gI_sI, if_pos rfl, h6]; rfl
  · rw [gI_sI, if_neg (by omega)]; exact (h8 k hk).1
  · rw [gI_sI, if_neg (by omega)]; exact (h8 k hk).2.1
theorem RM_tr {A : AS} {σ : PS} (n : Int32) (h : RM A σ) : RM (trN A n) (sI σ 1249 (31 * gI σ 1249 + n)) := by
  obtain ⟨⟨a1, a2, a3, a4, a5, a6, a7, a8⟩, h2, ⟨h4, h5⟩, h6, h7, h8⟩ := h
  refine ⟨⟨a1, a2, a3, a4, a5, a6, a7, a8⟩, h2, ⟨h4, h5⟩, ?_, h7, h8⟩
  rw [gI_sI, if_pos rfl, h6]; rfl
theorem WF_f {A : AS} {f : Nat} (h : WF A) (hf : f ≤ 4) : WF (setS A 8 f) := ⟨h.1, h.2.1, hf, h.2.2.2⟩
theorem RC_f {A : AS} {σ : PS} (f : Nat) (h : RC A σ) : RC (setS A 8 f) (sI σ 5 (nI f)) := by
  obtain ⟨⟨a1, a2, a3, a4, a5, a6, a7⟩, h2, ⟨h4, h5⟩, h6, h7, h8⟩ := h
  refine ⟨⟨a1, a2, a3, a4, a5, a6, a7⟩, h2, ⟨h4, h5⟩, h6, ?_, fun k hk => ⟨?_, ?_, (h8 k hk).2.2⟩⟩
  · rw [gI_sI, if_pos rfl]; rfl
  · rw [gI_sI, if_neg (by omega)]; exact (h8 k hk).1
  · rw [gI_sI, if_neg (by omega)]; exact (h8 k hk).2.1
theorem RM_f {A : AS} {σ : PS} (f : Nat) (h : RM A σ) : RM (setS A 8 f) (sI σ 1216 (nI f)) := by
  obtain ⟨⟨a1, a2, a3, a4, a5, a6, a7, a8⟩, h2, ⟨h4, h5⟩, h6, h7, h8⟩ := h
  refine ⟨⟨a1, a2, a3, a4, a5, a6, a7, a8⟩, h2, ⟨h4, h5⟩, h6, ?_, h8⟩
  rw [gI_sI, if_pos rfl]; rfl
theorem wf_kd {A : AS} (h : WF A) {k : Nat} (hk : k < aK A) : aKd A k ≤ 2 ∧ aSh A k ≤ 9 := h.2.1.2.1 k hk
theorem pr_greet (σ : PS) (h : Rel σ) (p0 : Int32) : Pair (F_X4_greet p0) (F_X5_greet p0) σ := pair_of h fun A hW => by
  have hb := (wf_b hW).2.2.1
  cases hv : vin p0 (aK A) with
  | false =>
    refine ⟨-1, A, hW, ansC_q fun σ hC => ?_, ansM_q fun σ hM => ?_⟩
    · unfold F_X4_greet
      rw [e_isLooker hW hC, hv]; rfl
    · unfold F_X5_greet
      rw [e_noLooker hW hM, hv]; rfl
  | true =>
    obtain ⟨j, hj, rfl⟩ := vin_ex hv (by omega)
    have hk := wf_kd hW hj
    by_cases h2 : aKd A j = 2
    · refine ⟨90, trN A 5, WF_tr 5 hW, ansC_mk fun σ hC => ⟨_, ?_, RC_tr 5 hC, eqM_sI (by decide)⟩, ansM_mk fun σ hM => ⟨_, ?_, RM_tr 5 hM, eqC_sI (by decide)⟩⟩
      · unfold F_X4_greet
        rw [e_isLooker hW hC, hv, Option.bind_some]
        dsimp only
        rw [cNe_bI, cond_true, e_kindOf hW hC hj, Option.bind_some, h2]; rfl
      · unfold F_X5_greet
        rw [e_noLooker hW hM, hv, Option.bind_some]
        dsimp only
        rw [cEq_bI, Bool.not_true, Bool.not_false, cond_true, vin_of_lt (by omega) (by decide), cond_true, tn (by omega), (hM.2.1.2 j hj).1, h2]
        rw [show cNe (nI 2) 2 = false from by decide, cond_false]
        unfold F_X5_traced
        rw [Option.bind_some]
        dsimp only
        rw [cond_true, gA_sI, (hM.2.1.2 j hj).1, h2]; rfl
    · have hne : cNe (nI (aKd A j)) 2 = true := by
        rw [show (2 : Int32) = nI 2 from rfl, cNe_nI (by omega) (by decide), decide_eq_false h2]; rfl
      refine ⟨nI j, trN A 4, WF_tr 4 hW, ansC_mk fun σ hC => ⟨_, ?_, RC_tr 4 hC, eqM_sI (by decide)⟩, ansM_mk fun σ hM => ⟨_, ?_, RM_tr 4 hM, eqC_sI (by decide)⟩⟩
      · unfold F_X4_greet
        rw [e_isLooker hW hC, hv, Option.bind_some]
        dsimp only
        rw [cNe_bI, cond_true, e_kindOf hW hC hj, Option.bind_some]
        dsimp only
        rw [hne]; rfl
      · unfold F_X5_greet
        rw [e_noLooker hW hM, hv, Option.bind_some]
        dsimp only
        rw [cEq_bI, Bool.not_true, Bool.not_false, cond_true, vin_of_lt (by omega) (by decide), cond_true, tn (by omega), (hM.2.1.2 j hj).1, hne, cond_true]
        unfold F_X5_traced
        rw [Option.bind_some]
        dsimp only
        rw [cond_true, gA_sI, (hM.2.1.2 j hj).1, hne]; rfl
theorem pr_as (σ : PS) (h : Rel σ) (p0 p1 : Int32) : Pair (F_X4_as p0 p1) (F_X5_as p0 p1) σ := pair_of h fun A hW => by
  have hb := (wf_b hW).2.2.1
  have h0 : WF (setS A 8 0) := WF_f hW (by decide)
  cases hv : vin p0 (aK A) with
  | false =>
    refine ⟨-1, setS A 8 0, h0, ansC_mk fun σ hC => ⟨_, ?_, RC_f 0 hC, eqM_sI (by decide)⟩, ansM_mk fun σ hM => ⟨_, ?_, RM_f 0 hM, eqC_sI (by decide)⟩⟩
    · unfold F_X4_as
      rw [show (0 : Int32) = nI 0 from rfl, e_isLooker h0 (RC_f 0 hC), show vin p0 (aK (setS A 8 0)) = false from hv]; rfl
    · unfold F_X5_as
      rw [e_noLooker hW hM, hv]; rfl
  | true =>
    obtain ⟨j, hj, rfl⟩ := vin_ex hv (by omega)
    have hk := wf_kd hW hj
    cases hr : inR p1 0 2 with
    | false =>
      refine ⟨-2, setS A 8 0, h0, ansC_mk fun σ hC => ⟨_, ?_, RC_f 0 hC, eqM_sI (by decide)⟩, ansM_mk fun σ hM => ⟨_, ?_, RM_f 0 hM, eqC_sI (by decide)⟩⟩
      · unfold F_X4_as
        rw [show sI σ 5 0 = sI σ 5 (nI 0) from rfl, e_isLooker h0 (RC_f 0 hC), show vin (nI j) (aK (setS A 8 0)) = true from hv, Option.bind_some]
        dsimp only
        rw [cNe_bI, cond_true, show F_X4_within p1 0 2 (sI σ 5 (nI 0)) = F_X4_within p1 (nI 0) (nI 2) (sI σ 5 (nI 0)) from rfl, e_within, hr]; rfl
      · unfold F_X5_as
        rw [e_noLooker hW hM, hv, Option.bind_some]
        dsimp only
        rw [cEq_bI, Bool.not_true, Bool.not_false, cond_true, show (0 : Int64) = lN 0 from rfl, show (2 : Int64) = lN 2 from rfl, e_inR _ 0 2 (by decide) (by decide), hr]; rfl
    | true =>
      obtain ⟨v, hv2, rfl⟩ := inR_ex hr (by decide)
      have hlt : cLt (nI (aKd A j)) (nI v) = decide (aKd A j < v) := cLt_nI (by omega) (by omega)
      have eC : ∀ σ, RC A σ → F_X4_as (nI j) (nI v) σ = bif decide (aKd A j < v) then some (-12, sI (sI σ 5 0) 5 2) else some (1, sI σ 5 0) := by
        intro σ hC
        unfold F_X4_as
        rw [show sI σ 5 0 = sI σ 5 (nI 0) from rfl, e_isLooker h0 (RC_f 0 hC), show vin (nI j) (aK (setS A 8 0)) = true from hv, Option.bind_some]
        dsimp only
        rw [cNe_bI, cond_true, show F_X4_within (nI v) 0 2 (sI σ 5 (nI 0)) = F_X4_within (nI v) (nI 0) (nI 2) (sI σ 5 (nI 0)) from rfl, e_within, hr, Option.bind_some]
        dsimp only
        rw [cNe_bI, cond_true, e_kindOf h0 (RC_f 0 hC) hj, Option.bind_some]
        dsimp only
        rw [show cLt (nI (aKd (setS A 8 0) j)) (nI v) = decide (aKd A j < v) from hlt]
        cases decide (aKd A j < v) <;> rfl
      have eM : ∀ σ, RM A σ → F_X5_as (nI j) (nI v) σ = bif decide (aKd A j < v) then some (-12, sI σ 1216 2) else some (1, sI σ 1216 0) := by
        intro σ hM
        unfold F_X5_as
        rw [e_noLooker hW hM, hv, Option.bind_some]
        dsimp only
        rw [cEq_bI, Bool.not_true, Bool.not_false, cond_true, show (0 : Int64) = lN 0 from rfl, show (2 : Int64) = lN 2 from rfl, e_inR _ 0 2 (by decide) (by decide), hr, Option.bind_some]
        dsimp only
        rw [cNe_bI, cond_true, vin_of_lt (by omega) (by decide), cond_true, tn (by omega), (hM.2.1.2 j hj).1, hlt]
        cases decide (aKd A j < v) <;> rfl
      by_cases hc : aKd A j < v
      · refine ⟨-12, setS A 8 2, WF_f hW (by decide), ansC_mk fun σ hC => ⟨_, (eC σ hC).trans (by rw [decide_eq_true hc]; rfl), ?_, (eqM_sI (z := 5) (v := 0) (by decide)).tr (eqM_sI (z := 5) (v := 2) (by decide))⟩, ansM_mk fun σ hM => ⟨_, (eM σ hM).trans (by rw [decide_eq_true hc]; rfl), RM_f 2 hM, eqC_sI (by decide)⟩⟩
        rw [← setS_setS A 8 0 2]
        exact RC_f 2 (RC_f 0 hC)
      · exact ⟨1, setS A 8 0, h0, ansC_mk fun σ hC => ⟨_, (eC σ hC).trans (by rw [decide_eq_false hc]; rfl), RC_f 0 hC, eqM_sI (by decide)⟩, ansM_mk fun σ hM => ⟨_, (eM σ hM).trans (by rw [decide_eq_false hc]; rfl), RM_f 0 hM, eqC_sI (by decide)⟩⟩
theorem e_plain {A : AS} {σ : PS} (hW : WF A) (hC : RC A σ) {k : Nat} (hk : k < aK A) : F_X4_plainBody (nI k) σ = some (nI (aSh A k), sI σ 4 (31 * gI σ 4 + 1)) := by
  unfold F_X4_plainBody F_X4_leaveInTrace
  rw [Option.bind_some]
  dsimp only
  rw [e_shortOf (WF_tr 1 hW) (RC_tr 1 hC) hk]; rfl
theorem e_deep {A : AS} {σ : PS} (hW : WF A) (hC : RC A σ) {k : Nat} (hk : k < aK A) : F_X4_deepBody (nI k) σ = some (nI (aSh A k) + 100, sI (sI σ 4 (31 * gI σ 4 + 2)) 4 (31 * gI (sI σ 4 (31 * gI σ 4 + 2)) 4 + 1)) := by
  unfold F_X4_deepBody F_X4_leaveInTrace
  rw [Option.bind_some]
  dsimp only
  rw [e_plain (WF_tr 2 hW) (RC_tr 2 hC) hk]; rfl
theorem pr_tell (σ : PS) (h : Rel σ) (p0 : Int32) : Pair (F_X4_tell p0) (F_X5_tell p0) σ := pair_of h fun A hW => by
  have hb := (wf_b hW).2.2.1
  cases hv : vin p0 (aK A) with
  | false =>
    refine ⟨-1, A, hW, ansC_q fun σ hC => ?_, ansM_q fun σ hM => ?_⟩
    · unfold F_X4_tell
      rw [e_isLooker hW hC, hv]; rfl
    · unfold F_X5_tell
      rw [e_noLooker hW hM, hv]; rfl
  | true =>
    obtain ⟨j, hj, rfl⟩ := vin_ex hv (by omega)
    have hk := wf_kd hW hj
    have h3 : aKd A j = 0 ∨ aKd A j = 1 ∨ aKd A j = 2 := by omega
    rcases h3 with h0 | h0 | h0
    · refine ⟨nI (aSh A j), trN A 1, WF_tr 1 hW, ansC_mk fun σ hC => ⟨_, ?_, RC_tr 1 hC, eqM_sI (by decide)⟩, ansM_mk fun σ hM => ⟨_, ?_, RM_tr 1 hM, eqC_sI (by decide)⟩⟩
      · unfold F_X4_tell
        rw [e_isLooker hW hC, hv, Option.bind_some]
        dsimp only
        rw [cNe_bI, cond_true, e_kindOf hW hC hj, Option.bind_some, h0]
        dsimp only
        rw [show decide (nI 0 = 1) = false from rfl, show decide (nI 0 = 2) = false from rfl, cond_false, cond_false, e_plain hW hC hj]; rfl
      · unfold F_X5_tell
        rw [e_noLooker hW hM, hv, Option.bind_some]
        dsimp only
        rw [cEq_bI, Bool.not_true, Bool.not_false, cond_true, vin_of_lt (by omega) (by decide), cond_true, tn (by omega), (hM.2.1.2 j hj).1, h0, show cNe (nI 0) 2 = true from by decide, cond_true, show cLe (nI 0) 0 = true from by decide, cond_true]
        unfold F_X5_traced
        rw [Option.bind_some]
        dsimp only
        rw [cond_true, cond_true, show cNe (nI 0) 0 = false from by decide, cond_false, gA_sI, (hM.2.1.2 j hj).2]
    · refine ⟨nI (aSh A j) + 100, trN (trN A 2) 1, WF_tr 1 (WF_tr 2 hW), ansC_mk fun σ hC => ⟨_, ?_, RC_tr 1 (RC_tr 2 hC), (eqM_sI (by decide)).tr (eqM_sI (by decide))⟩, ansM_mk fun σ hM => ⟨_, ?_, RM_tr 1 (RM_tr 2 hM), (eqC_sI (by decide)).tr (eqC_sI (by decide))⟩⟩
      · unfold F_X4_tell
        rw [e_isLooker hW hC, hv, Option.bind_some]
        dsimp only
        rw [cNe_bI, cond_true, e_kindOf hW hC hj, Option.bind_some, h0]
        dsimp only
        rw [show decide (nI 1 = 1) = true from rfl, cond_true, e_deep hW hC hj]; rfl
      · unfold F_X5_tell
        rw [e_noLooker hW hM, hv, Option.bind_some]
        dsimp only
        rw [cEq_bI, Bool.not_true, Bool.not_false, cond_true, vin_of_lt (by omega) (by decide), cond_true, tn (by omega), (hM.2.1.2 j hj).1, h0, show cNe (nI 1) 2 = true from by decide, cond_true, show cLe (nI 1) 0 = false from by decide, cond_false]
        unfold F_X5_traced
        rw [Option.bind_some]
        dsimp only
        rw [Option.bind_some]
        dsimp only
        rw [cond_true, cond_true, show cNe (nI 1) 0 = true from by decide, cond_true, show cNe (nI 1) 1 = false from by decide, cond_false, gA_sI, gA_sI, (hM.2.1.2 j hj).2]
    · refine ⟨nI (aSh A j) + 100 + nI (aSh A j), trN (trN (trN (trN A 3) 2) 1) 1, WF_tr 1 (WF_tr 1 (WF_tr 2 (WF_tr 3 hW))), ansC_mk fun σ hC => ⟨_, ?_, RC_tr 1 (RC_tr 1 (RC_tr 2 (RC_tr 3 hC))), (((eqM_sI (by decide)).tr (eqM_sI (by decide))).tr (eqM_sI (by decide))).tr (eqM_sI (by decide))⟩, ansM_mk fun σ hM => ⟨_, ?_, RM_tr 1 (RM_tr 1 (RM_tr 2 (RM_tr 3 hM))), (((eqC_sI (by decide)).tr (eqC_sI (by decide))).tr (eqC_sI (by decide))).tr (eqC_sI (by decide))⟩⟩
      · unfold F_X4_tell
        rw [e_isLooker hW hC, hv, Option.bind_some]
        dsimp only
        rw [cNe_bI, cond_true, e_kindOf hW hC hj, Option.bind_some, h0]
        dsimp only
        rw [show decide (nI 2 = 1) = false from rfl, show decide (nI 2 = 2) = true from rfl, cond_false, cond_true]
        unfold F_X4_grandBody F_X4_leaveInTrace
        rw [Option.bind_some]
        dsimp only
        rw [e_deep (WF_tr 3 hW) (RC_tr 3 hC) hj, Option.bind_some]
        dsimp only
        rw [e_plain (WF_tr 1 (WF_tr 2 (WF_tr 3 hW))) (RC_tr 1 (RC_tr 2 (RC_tr 3 hC))) hj]; rfl
      · unfold F_X5_tell
        rw [e_noLooker hW hM, hv, Option.bind_some]
        dsimp only
        rw [cEq_bI, Bool.not_true, Bool.not_false, cond_true, vin_of_lt (by omega) (by decide), cond_true, tn (by omega), (hM.2.1.2 j hj).1, h0, show cNe (nI 2) 2 = false from by decide, cond_false, show cLe (nI 2) 0 = false from by decide]
        unfold F_X5_traced
        rw [Option.bind_some]
        dsimp only
        rw [cond_false, Option.bind_some]
        dsimp only
        rw [Option.bind_some]
        dsimp only
        rw [cond_false, Option.bind_some]
        dsimp only
        rw [cond_true, show cNe (nI 2) 0 = true from by decide, cond_true, show cNe (nI 2) 1 = true from by decide, cond_true, gA_sI, gA_sI, gA_sI, gA_sI, (hM.2.1.2 j hj).2]
        have e : 2 * nI (aSh A j) + 100 = nI (aSh A j) + 100 + nI (aSh A j) := by
          rw [show (2 : Int32) = nI 2 from rfl, show (100 : Int32) = nI 100 from rfl, pk_mul, nI_add, nI_add, nI_add]
          congr 1
          omega
        rw [e]
