/-! sheet -/
theorem msheet_run (k n : Nat) (hk : k < 4) (hn : n ≤ 60) : ∀ (m f j : Nat) (σ : PS), j + m = n → m < f → ∃ σ', L_X5_sheet f (nI k) (nI n) (nI j) σ = some (1, sI σ' 1216 (nI 0)) ∧ (∀ z, gI σ' z = gI σ z) ∧ (∀ z, gL σ' z = gL σ z) ∧ (∀ c i, c ≠ 32 → gA σ' c i = gA σ c i) ∧ (∀ i, (i < 60 * k + j ∨ 60 * k + n ≤ i) → gA σ' 32 i = gA σ 32 i) ∧ ∀ i, j ≤ i → i < n → gA σ' 32 (60 * k + i) = 0 := by
  intro m
  induction m with
  | zero =>
    intro f j σ hj hf
    obtain ⟨f, rfl⟩ : ∃ f', f = f' + 1 := ⟨f - 1, by omega⟩
    refine ⟨σ, ?_, fun _ => rfl, fun _ => rfl, fun _ _ _ => rfl, fun _ _ => rfl, fun i h1 h2 => by omega⟩
    rw [L_X5_sheet]
    exact cnd_t (by rw [cGe_nI (by omega) (by omega)]; exact decide_eq_true (by omega)) rfl
  | succ m ih =>
    intro f j σ hj hf
    obtain ⟨f, rfl⟩ : ∃ f', f = f' + 1 := ⟨f - 1, by omega⟩
    obtain ⟨σ', e, g1, g2, g3, g4, g5⟩ := ih f (j + 1) (sA σ 32 (60 * k + j) 0) (by omega) (by omega)
    have ei : 60 * nI k + nI j = nI (60 * k + j) := by rw [show (60 : Int32) = nI 60 from rfl, pk_mul, nI_add]
    refine ⟨σ', ?_, g1, g2, fun c i hc => ?_, fun i hi => ?_, fun i h1 h2 => ?_⟩
    · rw [L_X5_sheet]
      refine cnd_f (by rw [cGe_nI (by omega) (by omega)]; exact decide_eq_false (by omega)) (cnd_t (by rw [ei]; exact vin_of_lt (by omega) (by decide)) ?_)
      rw [ei, tn (by omega), nI_1]
      exact e
    · rw [g3 c i hc, gA_sA, if_neg hc]
    · rw [g4 i (by omega), gA_sA, if_pos rfl, if_neg (by omega)]
    · by_cases h3 : i = j
      · rw [g4 _ (by omega), gA_sA, if_pos rfl, if_pos (by omega)]
      · exact g5 i (by omega) h2
theorem cut_0 (l : Nat) : cutN l 0 = 0 := by
  unfold cutN
  split
  · decide
  · split <;> decide
theorem cLe_60 {n : Nat} (h : n < 2147483648) : cLe (nI n) 60 = decide (n ≤ 60) := cLe_nI (b := 60) h (by decide)
theorem cLe_neg {p : Int32} (h : p < 0) : cLe p 60 = true ∧ cGe p 0 = false := by
  have h0 : p.toInt < 0 := by
    have := Int32.lt_iff_toInt_lt.mp h
    exact this
  refine ⟨decide_eq_true ?_, decide_eq_false ?_⟩
  · rw [Int32.le_iff_toInt_le]
    have : (60 : Int32).toInt = 60 := by decide
    omega
  · rw [Int32.le_iff_toInt_le]
    have : (0 : Int32).toInt = 0 := by decide
    omega
theorem pr_sheet (σ : PS) (h : Rel σ) (p0 p1 p2 : Int32) : Pair (F_X4_sheet p0 p1 p2) (F_X5_sheet p0 p1 p2) σ := pair_of h fun A hW => by
  have h0 : WF (setS A 8 0) := WF_f hW (by decide)
  cases hv : vin p0 4 with
  | false =>
    refine ⟨-1, setS A 8 0, h0, ansC_mk fun σ hC => ⟨_, ?_, RC_f 0 hC, eqM_sI (by decide)⟩, ansM_mk fun σ hM => ⟨_, ?_, RM_f 0 hM, eqC_sI (by decide)⟩⟩
    · unfold F_X4_sheet
      rw [e_sheetOf_n _ hv]; rfl
    · unfold F_X5_sheet
      rw [e_noSheet, hv]; rfl
  | true =>
    obtain ⟨k, hk, rfl⟩ := vin_ex hv (by decide)
    have e02 : ∀ σ, F_X5_in (Int32.toInt64 p1) 0 2 σ = some (bI (inR p1 0 2), σ) := fun σ => e_inR p1 0 2 (by decide) (by decide) σ
    cases hr : inR p1 0 2 with
    | false =>
      refine ⟨-2, setS A 8 0, h0, ansC_mk fun σ hC => ⟨_, ?_, RC_f 0 hC, eqM_sI (by decide)⟩, ansM_mk fun σ hM => ⟨_, ?_, RM_f 0 hM, eqC_sI (by decide)⟩⟩
      · unfold F_X4_sheet
        rw [e_sheetOf _ hk, Option.bind_some]
        dsimp only
        rw [isSh_k hk, cond_true, e_isLane, hr]; rfl
      · unfold F_X5_sheet
        rw [e_noSheet, hv, Option.bind_some]
        dsimp only
        rw [cEq_bI, Bool.not_true, Bool.not_false, cond_true, e02, hr]; rfl
    | true =>
      obtain ⟨l, hl, rfl⟩ := inR_ex hr (by decide)
      have eC : ∀ σ, F_X4_sheet (nI k) (nI l) p2 σ = bif cLe p2 60 then (bif cGe p2 0 then ((F_X3_renew (2 * k + 2) (nI l) p2 (sI σ 5 0)).bind fun q3 => some (1, q3.2)) else some (-14, sI (sI σ 5 0) 5 4)) else some (-2, sI σ 5 0) := by
        intro σ
        unfold F_X4_sheet
        rw [e_sheetOf _ hk, Option.bind_some]
        dsimp only
        rw [isSh_k hk, cond_true, e_isLane, hr, Option.bind_some]
        dsimp only
        rw [cEq_bI, Bool.not_true, cond_false]
        cases cLe p2 60 <;> cases cGe p2 0 <;> rfl
      have eM : ∀ σ, F_X5_sheet (nI k) (nI l) p2 σ = bif cLe p2 60 then (bif cGe p2 0 then L_X5_sheet fuelN (nI k) p2 0 (sA (sA σ 30 k p2) 31 k (nI l)) else some (-14, sI σ 1216 4)) else some (-2, sI σ 1216 0) := by
        intro σ
        unfold F_X5_sheet
        rw [e_noSheet, hv, Option.bind_some]
        dsimp only
        rw [cEq_bI, Bool.not_true, Bool.not_false, cond_true, e02, hr, Option.bind_some]
        dsimp only
        rw [cEq_bI, Bool.not_true, cond_false, cond_true, cond_true, tn (by omega)]
        cases cLe p2 60 <;> cases cGe p2 0 <;> rfl
      rcases p_cases p2 with hp | ⟨n, hn, rfl⟩
      · obtain ⟨q1, q2⟩ := cLe_neg hp
        refine ⟨-14, setS A 8 4, WF_f hW (by decide), ansC_mk fun σ hC => ⟨_, (eC σ).trans (by rw [q1, q2]; rfl), ?_, (eqM_sI (z := 5) (v := 0) (by decide)).tr (eqM_sI (z := 5) (v := 4) (by decide))⟩, ansM_mk fun σ hM => ⟨_, (eM σ).trans (by rw [q1, q2]; rfl), RM_f 4 hM, eqC_sI (by decide)⟩⟩
        rw [← setS_setS A 8 0 4]
        exact RC_f 4 (RC_f 0 hC)
      · by_cases h60 : n ≤ 60
        · have q1 : cLe (nI n) 60 = true := by rw [cLe_60 hn]; exact decide_eq_true h60
          have q2 : cGe (nI n) 0 = true := cGe_p hn
          refine ⟨1, setSh (setS A 8 0) k (n + 1) l (fun _ => 0), WF_sh h0 (by omega) hl (fun _ _ => cut_0 l), ansC_mk fun σ hC => ?_, ansM_mk fun σ hM => ?_⟩
          · obtain ⟨σ', e, g1, g2, g3, g4, g5⟩ := fill_run (2 * k + 2 + 1) 60 fuelN 0 (sI (sI (sI σ 5 0) (64 * (2 * k + 2) + 2) (nI l)) (64 * (2 * k + 2) + 1) (nI n)) (by omega) (by unfold fuelN; omega)
            rw [nI_0] at e
            refine ⟨σ', (eC σ).trans ?_, RC_sh hk (RC_f 0 hC) (fun c c1 c2 c3 => ?_) (fun c _ => ?_) (fun a a1 a2 i => ?_) ?_ ?_ (fun i hi => ?_), ⟨fun z hz => ?_, fun z hz => ?_, fun a ha i => ?_⟩⟩
            · rw [q1, q2, cond_true, cond_true]
              unfold F_X3_renew F_J7_fill_53178
              rw [e]; rfl
            · rw [g1, gI_sI, if_neg c2, gI_sI, if_neg c3]; rfl
            · rw [g2]; rfl
            · rw [g3 a i (by omega)]; rfl
            · rw [g1, gI_sI, if_pos rfl, nI_m1]
            · rw [g1, gI_sI, if_neg (by omega), gI_sI, if_pos rfl]
            · exact g5 i (Nat.zero_le _) (by omega)
            · rw [g1, gI_sI, if_neg (by omega), gI_sI, if_neg (by omega), gI_sI, if_neg (by omega)]
            · rw [g2]; rfl
            · rw [g3 a i (by omega)]; rfl
          · obtain ⟨σ', e, g1, g2, g3, g4, g5⟩ := msheet_run k n hk h60 n fuelN 0 (sA (sA σ 30 k (nI n)) 31 k (nI l)) (by omega) (by unfold fuelN; omega)
            rw [nI_0] at e
            refine ⟨sI σ' 1216 (nI 0), (eM σ).trans ?_, RM_f (A := setSh A k (n + 1) l (fun _ => 0)) 0 (RM_sh hk hW hM (fun c _ => g1 c) (fun c _ => g2 c) (fun a a1 a2 i => ?_) (fun q hq => ?_) (fun q hq => ?_) (fun c hc => ?_) ?_ ?_ (fun i hi => ?_)), ⟨fun z hz => ?_, fun z hz => g2 z, fun a ha i => ?_⟩⟩
            · rw [q1, q2, cond_true, cond_true, e, nI_0]
            · rw [g3 a i (by omega), gA_sA, if_neg (by omega), gA_sA, if_neg (by omega)]
            · rw [g3 30 q (by decide), gA_sA, if_neg (by decide), gA_sA, if_pos rfl, if_neg hq]
            · rw [g3 31 q (by decide), gA_sA, if_pos rfl, if_neg hq, gA_sA, if_neg (by decide)]
            · rw [g4 c (by omega), gA_sA, if_neg (by decide), gA_sA, if_neg (by decide)]
            · rw [g3 30 k (by decide), gA_sA, if_neg (by decide), gA_sA, if_pos rfl, if_pos rfl, nI_m1]
            · rw [g3 31 k (by decide), gA_sA, if_pos rfl, if_pos rfl]
            · exact g5 i (Nat.zero_le _) (by omega)
            · rw [gI_sI, if_neg (by omega), g1]; rfl
            · rw [gA_sI, g3 a i (by omega), gA_sA, if_neg (by omega), gA_sA, if_neg (by omega)]
        · have q1 : cLe (nI n) 60 = false := by rw [cLe_60 hn]; exact decide_eq_false h60
          exact ⟨-2, setS A 8 0, h0, ansC_mk fun σ hC => ⟨_, (eC σ).trans (by rw [q1]; rfl), RC_f 0 hC, eqM_sI (by decide)⟩, ansM_mk fun σ hM => ⟨_, (eM σ).trans (by rw [q1]; rfl), RM_f 0 hM, eqC_sI (by decide)⟩⟩
