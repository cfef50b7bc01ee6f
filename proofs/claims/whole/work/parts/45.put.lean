/-! cells of a SHEET; put -/
def fitsN (p q : Int32) (n : Nat) : Bool := decide (0 ≤ p.toInt ∧ 0 ≤ q.toInt ∧ p.toInt + q.toInt ≤ n)
theorem e_hasCells {A : AS} {σ : PS} (hW : WF A) (hC : RC A σ) {k n : Nat} (hk : k < 4) (hn : aZ A k = n + 1) (p q : Int32) : F_X3_hasCells (2 * k + 2) p q σ = some (bI (fitsN p q n), σ) := by
  have hz := (hW.2.2.2 k hk).1
  unfold F_X3_hasCells fitsN
  rw [(hC.2.2.2.2.2 k hk).1, hn, nI_m1]
  have z0 : (0 : Int32).toInt = 0 := by decide
  have c1 : cLt p 0 = decide (p.toInt < 0) := by unfold cLt; rw [decide_eq_decide, Int32.lt_iff_toInt_lt, z0]
  have c2 : cLt q 0 = decide (q.toInt < 0) := by unfold cLt; rw [decide_eq_decide, Int32.lt_iff_toInt_lt, z0]
  rw [c1, c2]
  by_cases h1 : p.toInt < 0
  · rw [decide_eq_true h1, (show decide (0 ≤ p.toInt ∧ 0 ≤ q.toInt ∧ p.toInt + q.toInt ≤ (n : Int)) = false from decide_eq_false (by omega))]; rfl
  · rw [decide_eq_false h1]
    by_cases h2 : q.toInt < 0
    · rw [decide_eq_true h2, (show decide (0 ≤ p.toInt ∧ 0 ≤ q.toInt ∧ p.toInt + q.toInt ≤ (n : Int)) = false from decide_eq_false (by omega))]; rfl
    · rw [decide_eq_false h2]
      have hq := Int32.toInt_lt q
      have c3 : cGt p (nI n - q) = decide ((n : Int) < p.toInt + q.toInt) := by
        unfold cGt
        rw [decide_eq_decide, Int32.lt_iff_toInt_lt, Int32.toInt_sub, nI_toInt (by omega), Int.bmod_eq_of_le (by omega) (by omega)]
        omega
      rw [c3]
      by_cases h3 : (n : Int) < p.toInt + q.toInt
      · rw [decide_eq_true h3, (show decide (0 ≤ p.toInt ∧ 0 ≤ q.toInt ∧ p.toInt + q.toInt ≤ (n : Int)) = false from decide_eq_false (by omega))]; rfl
      · rw [decide_eq_false h3, (show decide (0 ≤ p.toInt ∧ 0 ≤ q.toInt ∧ p.toInt + q.toInt ≤ (n : Int)) = true from decide_eq_true (by omega))]; rfl
theorem fits_1 (p : Int32) {n : Nat} (hn : n < 2147483648) : fitsN p 1 n = vin p n := by
  unfold fitsN
  have z1 : (1 : Int32).toInt = 1 := by decide
  rw [z1]
  rcases p_cases p with h | ⟨j, hj, rfl⟩
  · rw [vin_neg h]
    have : p.toInt < 0 := Int32.lt_iff_toInt_lt.mp h
    exact decide_eq_false (by omega)
  · rw [vin_pos hj, nI_toInt hj, decide_eq_decide]
    omega
theorem e_noCell {A : AS} {σ : PS} (hW : WF A) (hM : RM A σ) {k : Nat} (hk : k < 4) (p : Int32) : F_X5_noCell (nI k) p σ = some (if aZ A k = 0 then 1 else bif vin p (aZ A k - 1) then 0 else 3, σ) := by
  have hz := (hW.2.2.2 k hk).1
  unfold F_X5_noCell
  rw [vin_of_lt hk (by decide), cond_true, tn (by omega), (hM.2.2.2.2.2 k hk).1]
  cases hn : aZ A k with
  | zero => rw [cGe_m1]; rfl
  | succ n =>
    rw [nI_m1, cGe_p (by omega), cond_true, cond_true, e_inN p n (by omega), Option.bind_some]
    dsimp only
    rw [cEq_bI, if_neg (by omega), Nat.add_sub_cancel]
    cases vin p n <;> rfl
theorem fb_byte_twice (x : Int32) : x.toInt8.toInt32.toInt8.toInt32 = x.toInt8.toInt32 := by simp
theorem fb_short_twice (x : Int32) : x.toInt16.toInt32.toInt16.toInt32 = x.toInt16.toInt32 := by simp
theorem cut_cut (l : Nat) (x : Int32) : cutN l (cutN l x) = cutN l x := by
  unfold cutN
  split
  · exact fb_byte_twice x
  · split
    · exact fb_short_twice x
    · rfl
theorem e_cut {A : AS} {σ : PS} (hW : WF A) (hC : RC A σ) {k : Nat} (hk : k < 4) (x : Int32) : F_X3_cutToLane (2 * k + 2) x σ = some (cutN (aL A k) x, σ) := by
  have hl := (hW.2.2.2 k hk).2
  unfold F_X3_cutToLane
  rw [(hC.2.2.2.2.2 k hk).2.1]
  have h3 : aL A k = 0 ∨ aL A k = 1 ∨ aL A k = 2 := by omega
  rcases h3 with q | q | q <;> rw [q] <;> rfl
theorem cNe_lane {l : Nat} (h : l ≤ 2) : (cNe (nI l) 0 = !decide (l = 0)) ∧ (cNe (nI l) 1 = !decide (l = 1)) := ⟨cNe_nI (b := 0) (by omega) (by decide), cNe_nI (b := 1) (by omega) (by decide)⟩
theorem e_failed1 (σ : PS) : F_X5_failed 1 σ = some (-11, sI σ 1216 (nI 1)) := by
  unfold F_X5_failed
  rw [show ((-10 : Int32) - 1) = -11 from by decide, show (1 : Int32) = nI 1 from rfl]
theorem e_failed3 (σ : PS) : F_X5_failed 3 σ = some (-13, sI σ 1216 (nI 3)) := by
  unfold F_X5_failed
  rw [show ((-10 : Int32) - 3) = -13 from by decide, show (3 : Int32) = nI 3 from rfl]
theorem pr_put (σ : PS) (h : Rel σ) (p0 p1 p2 : Int32) : Pair (F_X4_put p0 p1 p2) (F_X5_put p0 p1 p2) σ := pair_of h fun A hW => by
  have h0 : WF (setS A 8 0) := WF_f hW (by decide)
  cases hv : vin p0 4 with
  | false =>
    refine ⟨-1, setS A 8 0, h0, ansC_mk fun σ hC => ⟨_, ?_, RC_f 0 hC, eqM_sI (by decide)⟩, ansM_mk fun σ hM => ⟨_, ?_, RM_f 0 hM, eqC_sI (by decide)⟩⟩
    · unfold F_X4_put
      rw [e_sheetOf_n _ hv]; rfl
    · unfold F_X5_put
      rw [e_noSheet, hv]; rfl
  | true =>
    obtain ⟨k, hk, rfl⟩ := vin_ex hv (by decide)
    have hz := hW.2.2.2 k hk
    cases hn : aZ A k with
    | zero =>
      refine ⟨-11, setS A 8 1, WF_f hW (by decide), ansC_mk fun σ hC => ⟨_, ?_, ?_, (eqM_sI (z := 5) (v := 0) (by decide)).tr (eqM_sI (z := 5) (v := 1) (by decide))⟩, ansM_mk fun σ hM => ⟨_, ?_, RM_f 1 hM, eqC_sI (by decide)⟩⟩
      · unfold F_X4_put
        rw [e_sheetOf _ hk, Option.bind_some]
        dsimp only
        rw [isSh_k hk, cond_true, show sI σ 5 0 = sI σ 5 (nI 0) from rfl, e_hasNothing h0 (RC_f 0 hC) hk, show aZ (setS A 8 0) k = 0 from hn]; rfl
      · rw [← setS_setS A 8 0 1]
        exact RC_f 1 (RC_f 0 hC)
      · unfold F_X5_put
        rw [e_noSheet, hv, Option.bind_some]
        dsimp only
        rw [cEq_bI, Bool.not_true, Bool.not_false, cond_true, e_noCell hW hM hk, hn, if_pos rfl, Option.bind_some]
        dsimp only
        rw [show cLe 1 0 = false from by decide, cond_false, e_noCell hW hM hk, hn, if_pos rfl, Option.bind_some]
        dsimp only
        rw [e_failed1, Option.bind_some]
    | succ n =>
      cases hf : vin p1 n with
      | false =>
        refine ⟨-13, setS A 8 3, WF_f hW (by decide), ansC_mk fun σ hC => ⟨_, ?_, ?_, (eqM_sI (z := 5) (v := 0) (by decide)).tr (eqM_sI (z := 5) (v := 3) (by decide))⟩, ansM_mk fun σ hM => ⟨_, ?_, RM_f 3 hM, eqC_sI (by decide)⟩⟩
        · unfold F_X4_put
          rw [e_sheetOf _ hk, Option.bind_some]
          dsimp only
          rw [isSh_k hk, cond_true, show sI σ 5 0 = sI σ 5 (nI 0) from rfl, e_hasNothing h0 (RC_f 0 hC) hk, show aZ (setS A 8 0) k = n + 1 from hn, Option.bind_some]
          dsimp only
          rw [cEq_bI, show decide (n + 1 = 0) = false from decide_eq_false (by omega), Bool.not_false, cond_true, e_hasCells h0 (RC_f 0 hC) hk hn, fits_1 p1 (by omega), hf]; rfl
        · rw [← setS_setS A 8 0 3]
          exact RC_f 3 (RC_f 0 hC)
        · unfold F_X5_put
          rw [e_noSheet, hv, Option.bind_some]
          dsimp only
          rw [cEq_bI, Bool.not_true, Bool.not_false, cond_true, e_noCell hW hM hk, hn, if_neg (by omega), Nat.add_sub_cancel, hf, Option.bind_some]
          dsimp only
          rw [show cLe (bif false then 0 else 3) 0 = false from by decide, cond_false, e_noCell hW hM hk, hn, if_neg (by omega), Nat.add_sub_cancel, hf, Option.bind_some]
          dsimp only
          rw [cond_false, e_failed3, Option.bind_some]
      | true =>
        obtain ⟨i, hi, rfl⟩ := vin_ex hf (by omega)
        have ei : 60 * nI k + nI i = nI (60 * k + i) := by rw [show (60 : Int32) = nI 60 from rfl, pk_mul, nI_add]
        refine ⟨1, setSh (setS A 8 0) k (n + 1) (aL A k) (upd (A.2.2.2 k) i (cutN (aL A k) p2)), WF_sh h0 (by omega) hz.2 (fun q hq => by
          show cutN (aL A k) (if q = i then _ else _) = if q = i then _ else _
          by_cases e : q = i
          · rw [if_pos e]; exact cut_cut _ _
          · rw [if_neg e]; exact hW.2.1.2.2.2 k hk q (by omega)), ansC_mk fun σ hC => ⟨sA (sI σ 5 (nI 0)) (2 * k + 2 + 1) i (cutN (aL A k) p2), ?_, ?_, (eqM_sI (z := 5) (v := nI 0) (by decide)).tr (eqM_sA (by omega))⟩, ansM_mk fun σ hM => ⟨sI (sA σ 32 (60 * k + i) (cutN (aL A k) p2)) 1216 (nI 0), ?_, ?_, (eqC_sA (by decide)).tr (eqC_sI (by decide))⟩⟩
        · unfold F_X4_put
          rw [e_sheetOf _ hk, Option.bind_some]
          dsimp only
          rw [isSh_k hk, cond_true, show sI σ 5 0 = sI σ 5 (nI 0) from rfl, e_hasNothing h0 (RC_f 0 hC) hk, show aZ (setS A 8 0) k = n + 1 from hn, Option.bind_some]
          dsimp only
          rw [cEq_bI, show decide (n + 1 = 0) = false from decide_eq_false (by omega), Bool.not_false, cond_true, e_hasCells h0 (RC_f 0 hC) hk hn, fits_1 _ (by omega), hf, Option.bind_some]
          dsimp only
          rw [cNe_bI, cond_true]
          unfold F_X3_write
          rw [e_cut h0 (RC_f 0 hC) hk, Option.bind_some]
          dsimp only
          rw [e_setNumber _ _ _ (by decide), vin_of_lt (by omega) (by decide), cond_true, tn (by omega)]; rfl
        · refine RC_sh hk (RC_f 0 hC) (fun c c1 c2 c3 => rfl) (fun _ _ => rfl) (fun a a1 a2 q => ?_) ?_ ?_ (fun q hq => ?_)
          · rw [gA_sA, if_neg (by omega)]
          · rw [gI_sA, gI_sI, if_neg (by omega), (hC.2.2.2.2.2 k hk).1, hn]
          · rw [gI_sA, gI_sI, if_neg (by omega)]; exact (hC.2.2.2.2.2 k hk).2.1
          · rw [gA_sA, if_pos (by omega)]
            show _ = if q = i then _ else _
            by_cases e : q = i
            · rw [if_pos e, if_pos e]
            · rw [if_neg e, if_neg e]; exact (hC.2.2.2.2.2 k hk).2.2 q (by omega)
        · unfold F_X5_put
          rw [e_noSheet, hv, Option.bind_some]
          dsimp only
          rw [cEq_bI, Bool.not_true, Bool.not_false, cond_true, e_noCell hW hM hk, hn, if_neg (by omega), Nat.add_sub_cancel, hf, Option.bind_some]
          dsimp only
          rw [cond_true, show cLe 0 0 = true from by decide, cond_true, cond_true, tn (by omega), (hM.2.2.2.2.2 k hk).2.1, (cNe_lane hz.2).1, (cNe_lane hz.2).2, ei, vin_of_lt (by omega) (by decide), tn (by omega)]
          have h3 : aL A k = 0 ∨ aL A k = 1 ∨ aL A k = 2 := by omega
          rcases h3 with q | q | q <;> rw [q] <;> rfl
        · refine RM_f (A := setSh A k (n + 1) (aL A k) (upd (A.2.2.2 k) i (cutN (aL A k) p2))) 0 (RM_sh hk hW hM (fun _ _ => rfl) (fun _ _ => rfl) (fun a a1 a2 q => ?_) (fun q hq => ?_) (fun q hq => ?_) (fun c hc => ?_) ?_ ?_ (fun q hq => ?_))
          · rw [gA_sA, if_neg (by omega)]
          · rw [gA_sA, if_neg (by decide)]
          · rw [gA_sA, if_neg (by decide)]
          · rw [gA_sA, if_pos rfl, if_neg (by omega)]
          · rw [gA_sA, if_neg (by decide), (hM.2.2.2.2.2 k hk).1, hn]
          · rw [gA_sA, if_neg (by decide)]; exact (hM.2.2.2.2.2 k hk).2.1
          · rw [gA_sA, if_pos rfl]
            show _ = if q = i then _ else _
            by_cases e : q = i
            · rw [if_pos e, if_pos (by omega)]
            · rw [if_neg e, if_neg (by omega)]; exact (hM.2.2.2.2.2 k hk).2.2 q (by omega)
