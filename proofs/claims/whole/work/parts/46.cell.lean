/-! the pair of cell -/
def ftN (A : AS) (k l : Nat) (p q : Int32) : Nat := if aZ A k = 0 then 1 else if l = aL A k then (bif cGe q 0 then (bif fitsN p q (aZ A k - 1) then 0 else 3) else 4) else 2
theorem e_faultIn {A : AS} {σ : PS} (hW : WF A) (hC : RC A σ) {k l : Nat} (hk : k < 4) (hl : l ≤ 2) (p q : Int32) : F_X3_faultInTaking (2 * k + 2) (nI l) p q σ = some (nI (ftN A k l p q), σ) := by
  have hz := hW.2.2.2 k hk
  unfold F_X3_faultInTaking ftN
  rw [e_hasNothing hW hC hk, Option.bind_some]
  dsimp only
  rw [cEq_bI]
  cases hn : aZ A k with
  | zero => rw [if_pos rfl, decide_eq_true rfl, Bool.not_true, cond_false]; rfl
  | succ n =>
    rw [if_neg (by omega), show decide (n + 1 = 0) = false from decide_eq_false (by omega), Bool.not_false, cond_true, (hC.2.2.2.2.2 k hk).2.1, cEq_nI (a := l) (b := aL A k) (by omega) (by omega), Nat.add_sub_cancel]
    by_cases e : l = aL A k
    · rw [if_pos e, decide_eq_true e, cond_true]
      cases cGe q 0 with
      | false => rfl
      | true =>
        rw [cond_true, cond_true, e_hasCells hW hC hk hn, Option.bind_some]
        dsimp only
        rw [cEq_bI]
        cases fitsN p q n <;> rfl
    · rw [if_neg e, decide_eq_false e, cond_false]; rfl
theorem e_flong1 (σ : PS) : F_X5_failedLong 1 σ = some (-9223372036854775808, sI σ 1216 (nI 1)) := rfl
theorem e_flong2 (σ : PS) : F_X5_failedLong 2 σ = some (-9223372036854775808, sI σ 1216 (nI 2)) := rfl
theorem e_flong3 (σ : PS) : F_X5_failedLong 3 σ = some (-9223372036854775808, sI σ 1216 (nI 3)) := rfl
theorem e_lost (σ : PS) : F_X5_lost σ = some (-9223372036854775808, σ) := rfl
theorem pr_cell (σ : PS) (h : Rel σ) (p0 p1 p2 : Int32) : Pair (F_X4_cell p0 p1 p2) (F_X5_cell p0 p1 p2) σ := pair_of h fun A hW => by
  have h0 : WF (setS A 8 0) := WF_f hW (by decide)
  cases hv : vin p0 4 with
  | false =>
    refine ⟨-9223372036854775808, setS A 8 0, h0, ansC_mk fun σ hC => ⟨_, ?_, RC_f 0 hC, eqM_sI (by decide)⟩, ansM_mk fun σ hM => ⟨_, ?_, RM_f 0 hM, eqC_sI (by decide)⟩⟩
    · unfold F_X4_cell
      rw [e_sheetOf_n _ hv]; rfl
    · unfold F_X5_cell
      rw [e_noSheet, hv]; rfl
  | true =>
    obtain ⟨k, hk, rfl⟩ := vin_ex hv (by decide)
    have hz := hW.2.2.2 k hk
    have e02 : ∀ σ, F_X5_in (Int32.toInt64 p2) 0 2 σ = some (bI (inR p2 0 2), σ) := fun σ => e_inR p2 0 2 (by decide) (by decide) σ
    cases hr : inR p2 0 2 with
    | false =>
      refine ⟨-9223372036854775808, setS A 8 0, h0, ansC_mk fun σ hC => ⟨_, ?_, RC_f 0 hC, eqM_sI (by decide)⟩, ansM_mk fun σ hM => ⟨_, ?_, RM_f 0 hM, eqC_sI (by decide)⟩⟩
      · unfold F_X4_cell
        rw [e_sheetOf _ hk, Option.bind_some]
        dsimp only
        rw [isSh_k hk, cond_true, e_isLane, hr]; rfl
      · unfold F_X5_cell
        rw [e_noSheet, hv, Option.bind_some]
        dsimp only
        rw [cNe_bI, Bool.not_true, cond_false, e02, hr, Option.bind_some]
        dsimp only
        rw [cNe_bI, cond_false, e_lost]; rfl
    | true =>
      obtain ⟨l, hl, rfl⟩ := inR_ex hr (by decide)
      have eC : ∀ σ, RC A σ → F_X4_cell (nI k) p1 (nI l) σ = bif cNe (nI (ftN A k l p1 1)) 0 then some (-9223372036854775808, sI (sI σ 5 (nI 0)) 5 (nI (ftN A k l p1 1))) else some (Int32.toInt64 (bif vin p1 60 then gA σ (2 * k + 2 + 1) p1.toNatClampNeg else 0), sI (sI σ 5 (nI 0)) 5 (nI (ftN A k l p1 1))) := by
        intro σ hC
        unfold F_X4_cell
        rw [e_sheetOf _ hk, Option.bind_some]
        dsimp only
        rw [isSh_k hk, cond_true, e_isLane, hr, Option.bind_some]
        dsimp only
        rw [cNe_bI, cond_true, show sI σ 5 0 = sI σ 5 (nI 0) from rfl, e_faultIn h0 (RC_f 0 hC) hk hl, Option.bind_some]
        dsimp only
        rw [gI_sI, if_pos rfl, show ftN (setS A 8 0) k l p1 1 = ftN A k l p1 1 from rfl]
        unfold F_X3_read
        rw [e_numberAt _ _ (by decide), Option.bind_some, Option.bind_some]
        rfl
      have eM : ∀ σ, RM A σ → F_X5_cell (nI k) p1 (nI l) σ = if aZ A k = 0 then some (-9223372036854775808, sI (sI σ 1216 (nI 0)) 1216 (nI 1)) else if aL A k = l then (bif vin p1 (aZ A k - 1) then (bif vin (60 * nI k + p1) 240 then some (Int32.toInt64 (gA σ 32 (60 * nI k + p1).toNatClampNeg), sI σ 1216 (nI 0)) else none) else some (-9223372036854775808, sI (sI σ 1216 (nI 0)) 1216 (nI 3))) else some (-9223372036854775808, sI (sI σ 1216 (nI 0)) 1216 (nI 2)) := by
        intro σ hM
        unfold F_X5_cell
        rw [e_noSheet, hv, Option.bind_some]
        dsimp only
        rw [cNe_bI, Bool.not_true, cond_false, e02, hr, Option.bind_some]
        dsimp only
        rw [cNe_bI, cond_true, cond_true, cond_true, tn (by omega), show sI σ 1216 0 = sI σ 1216 (nI 0) from rfl, (RM_f 0 hM).2.2.2.2.2 k hk |>.1, (RM_f 0 hM).2.2.2.2.2 k hk |>.2.1]
        have hM0 := RM_f 0 hM
        cases hn : aZ A k with
        | zero =>
          rw [if_pos rfl, show aZ (setS A 8 0) k = 0 from hn, show cLt (nI 0 - 1) 0 = true from by decide, cond_true, e_noCell h0 hM0 hk, show aZ (setS A 8 0) k = 0 from hn, if_pos rfl, Option.bind_some]
          dsimp only
          rw [show cLe 1 0 = false from by decide, cond_false, e_noCell h0 hM0 hk, show aZ (setS A 8 0) k = 0 from hn, if_pos rfl, Option.bind_some]
          dsimp only
          rw [e_flong1, Option.bind_some]
        | succ n =>
          rw [if_neg (by omega), show aZ (setS A 8 0) k = n + 1 from hn, nI_m1, show cLt (nI n) 0 = false from cLt_pos (by omega), cond_false, show aL (setS A 8 0) k = aL A k from rfl, cEq_nI (by omega) (by omega)]
          by_cases e : aL A k = l
          · rw [if_pos e, decide_eq_true e, cond_true, e_noCell h0 hM0 hk, show aZ (setS A 8 0) k = n + 1 from hn, if_neg (by omega), Nat.add_sub_cancel, Option.bind_some]
            dsimp only
            cases hf : vin p1 n with
            | true => rfl
            | false =>
              rw [cond_false, cond_false, show cLe 3 0 = false from by decide, cond_false, e_noCell h0 hM0 hk, show aZ (setS A 8 0) k = n + 1 from hn, if_neg (by omega), Nat.add_sub_cancel, hf, Option.bind_some]
              dsimp only
              rw [cond_false, e_flong3, Option.bind_some]
          · rw [if_neg e, decide_eq_false e, cond_false, e_flong2, Option.bind_some]
      by_cases hn : aZ A k = 0
      · refine ⟨-9223372036854775808, setS A 8 1, WF_f hW (by decide), ansC_mk fun σ hC => ⟨_, (eC σ hC).trans ?_, ?_, (eqM_sI (z := 5) (v := nI 0) (by decide)).tr (eqM_sI (z := 5) (v := nI 1) (by decide))⟩, ansM_mk fun σ hM => ⟨_, (eM σ hM).trans (if_pos hn), ?_, (eqC_sI (by decide)).tr (eqC_sI (by decide))⟩⟩
        · rw [show ftN A k l p1 1 = 1 from if_pos hn]; rfl
        · rw [← setS_setS A 8 0 1]
          exact RC_f 1 (RC_f 0 hC)
        · rw [← setS_setS A 8 0 1]
          exact RM_f 1 (RM_f 0 hM)
      · by_cases e : aL A k = l
        · have ft : ftN A k l p1 1 = bif vin p1 (aZ A k - 1) then 0 else 3 := by
            unfold ftN
            rw [if_neg hn, if_pos e.symm, show cGe 1 0 = true from by decide, cond_true, fits_1 p1 (by omega)]
          have em := fun σ hM => (eM σ hM).trans ((if_neg hn).trans (if_pos e))
          cases hf : vin p1 (aZ A k - 1) with
          | false =>
            rw [hf, cond_false] at ft
            rw [hf] at em
            refine ⟨-9223372036854775808, setS A 8 3, WF_f hW (by decide), ansC_mk fun σ hC => ⟨_, (eC σ hC).trans ?_, ?_, (eqM_sI (z := 5) (v := nI 0) (by decide)).tr (eqM_sI (z := 5) (v := nI 3) (by decide))⟩, ansM_mk fun σ hM => ⟨_, em σ hM, ?_, (eqC_sI (by decide)).tr (eqC_sI (by decide))⟩⟩
            · rw [ft]; rfl
            · rw [← setS_setS A 8 0 3]
              exact RC_f 3 (RC_f 0 hC)
            · rw [← setS_setS A 8 0 3]
              exact RM_f 3 (RM_f 0 hM)
          | true =>
            rw [hf, cond_true] at ft
            rw [hf] at em
            obtain ⟨i, hi, rfl⟩ := vin_ex hf (by omega)
            have ei : 60 * nI k + nI i = nI (60 * k + i) := by rw [show (60 : Int32) = nI 60 from rfl, pk_mul, nI_add]
            refine ⟨Int32.toInt64 (aX A k i), setS A 8 0, h0, ansC_mk fun σ hC => ⟨sI (sI σ 5 (nI 0)) 5 (nI 0), (eC σ hC).trans ?_, ?_, (eqM_sI (z := 5) (v := nI 0) (by decide)).tr (eqM_sI (z := 5) (v := nI 0) (by decide))⟩, ansM_mk fun σ hM => ⟨sI σ 1216 (nI 0), (em σ hM).trans ?_, RM_f 0 hM, eqC_sI (by decide)⟩⟩
            · rw [ft, show cNe (nI 0) 0 = false from by decide, cond_false, vin_of_lt (by omega) (by decide), cond_true, tn (by omega), ← (hC.2.2.2.2.2 k hk).2.2 i (by omega)]
            · rw [← setS_setS A 8 0 0]
              exact RC_f 0 (RC_f 0 hC)
            · rw [cond_true, ei, vin_of_lt (by omega) (by decide), cond_true, tn (by omega), (hM.2.2.2.2.2 k hk).2.2 i (by omega)]
        · refine ⟨-9223372036854775808, setS A 8 2, WF_f hW (by decide), ansC_mk fun σ hC => ⟨_, (eC σ hC).trans ?_, ?_, (eqM_sI (z := 5) (v := nI 0) (by decide)).tr (eqM_sI (z := 5) (v := nI 2) (by decide))⟩, ansM_mk fun σ hM => ⟨_, (eM σ hM).trans ((if_neg hn).trans (if_neg e)), ?_, (eqC_sI (by decide)).tr (eqC_sI (by decide))⟩⟩
          · rw [show ftN A k l p1 1 = 2 from (if_neg hn).trans (if_neg fun q => e q.symm)]; rfl
          · rw [← setS_setS A 8 0 2]
            exact RC_f 2 (RC_f 0 hC)
          · rw [← setS_setS A 8 0 2]
            exact RM_f 2 (RM_f 0 hM)
