/-! what all tell at a place; the model's steps from a state that is kept -/
def hv (h : Nat) : Int32 := if h = 0 then -9 else nI (h - 1)
theorem hv_max : ∀ a, a < 22 → ∀ b, b < 22 → imax (hv a) (hv b) = hv (max a b) := by decide +kernel
theorem hv_le : ∀ t, t < 21 → ∀ h, h < 22 → cLe (nI t) (hv h) = decide (t + 1 ≤ h) := by decide +kernel
theorem hv_m9 : ∀ h, h < 22 → cLe (-9) (hv h) = true := by decide +kernel
def smN (A : AS) (P : Nat) : Nat → Nat
  | 0 => 0
  | k + 1 => smN A P k + (bif (aG A).testBit k then 0 else tellN (aKd A k) (aSh A k) (aH A (P + k)))
def mxN (A : AS) (P : Nat) : Nat → Nat
  | 0 => 0
  | k + 1 => max (mxN A P k) (bif (aG A).testBit k then 0 else tellN (aKd A k) (aSh A k) (aH A (P + k)) + 1)
theorem mxN_le {A : AS} (hW : WF A) {P : Nat} (hP : P + aK A ≤ aW A * aT A) : ∀ k, k ≤ aK A → mxN A P k ≤ 21 := by
  intro k
  induction k with
  | zero => intro _; exact Nat.zero_le _
  | succ k ih =>
    intro hk
    have h1 := ih (by omega)
    have h2 := tell_le (kd := aKd A k) (sh := aSh A k) (hW.2.1.1 (P + k) (by omega))
    show max (mxN A P k) (bif (aG A).testBit k then 0 else tellN (aKd A k) (aSh A k) (aH A (P + k)) + 1) ≤ 21
    cases (aG A).testBit k with
    | true => rw [cond_true]; omega
    | false => rw [cond_false]; omega
theorem tog_run {A : AS} {σ : PS} (hW : WF A) (hC : RC A σ) {P : Nat} (hP : P + aK A ≤ aW A * aT A) : ∀ (m f j : Nat), j + m = aK A → m < f → L_X1_toldTogether f (nI P) (nI (smN A P j)) (nI j) σ = some (nI (smN A P (aK A)), σ) := by
  have hb := wf_b hW
  intro m
  induction m with
  | zero =>
    intro f j hj hf
    obtain ⟨f, rfl⟩ : ∃ f', f = f' + 1 := ⟨f - 1, by omega⟩
    rw [L_X1_toldTogether, show j = aK A from by omega]
    exact cnd_t (by rw [hC.1.2.2.1, cGe_nI (by omega) (by omega)]; exact dt (by omega)) rfl
  | succ m ih =>
    intro f j hj hf
    obtain ⟨f, rfl⟩ : ∃ f', f = f' + 1 := ⟨f - 1, by omega⟩
    have ih' := ih f (j + 1) (by omega) (by omega)
    rw [show smN A P (j + 1) = smN A P j + (bif (aG A).testBit j then 0 else tellN (aKd A j) (aSh A j) (aH A (P + j))) from rfl] at ih'
    rw [L_X1_toldTogether]
    refine cnd_f (by rw [hC.1.2.2.1, cGe_nI (by omega) (by omega)]; exact df (by omega)) (bd (e_isGone hW hC (by omega)) ?_)
    cases hg : (aG A).testBit j with
    | true =>
      rw [hg, cond_true, Nat.add_zero] at ih'
      refine cnd_t (nt rfl) ?_
      rw [nI_1]; exact ih'
    | false =>
      rw [hg, cond_false] at ih'
      refine cnd_f (nf rfl) ?_
      rw [nI_add]
      refine bd (e_toldOf hW hC (by omega) (by omega)) ?_
      dsimp only
      rw [nI_add, nI_1]; exact ih'
theorem mst_run {A : AS} {σ : PS} (hW : WF A) (hC : RC A σ) {P : Nat} (hP : P + aK A ≤ aW A * aT A) : ∀ (m f j : Nat), j + m = aK A → m < f → L_X1_mostTold f (nI P) (hv (mxN A P j)) (nI j) σ = some (hv (mxN A P (aK A)), σ) := by
  have hb := wf_b hW
  intro m
  induction m with
  | zero =>
    intro f j hj hf
    obtain ⟨f, rfl⟩ : ∃ f', f = f' + 1 := ⟨f - 1, by omega⟩
    rw [L_X1_mostTold, show j = aK A from by omega]
    exact cnd_t (by rw [hC.1.2.2.1, cGe_nI (by omega) (by omega)]; exact dt (by omega)) rfl
  | succ m ih =>
    intro f j hj hf
    obtain ⟨f, rfl⟩ : ∃ f', f = f' + 1 := ⟨f - 1, by omega⟩
    have ih' := ih f (j + 1) (by omega) (by omega)
    have hm := mxN_le hW hP j (by omega)
    have ht := tell_le (kd := aKd A j) (sh := aSh A j) (hW.2.1.1 (P + j) (by omega))
    rw [show mxN A P (j + 1) = max (mxN A P j) (bif (aG A).testBit j then 0 else tellN (aKd A j) (aSh A j) (aH A (P + j)) + 1) from rfl] at ih'
    rw [L_X1_mostTold]
    refine cnd_f (by rw [hC.1.2.2.1, cGe_nI (by omega) (by omega)]; exact df (by omega)) (bd (e_isGone hW hC (by omega)) ?_)
    cases hg : (aG A).testBit j with
    | true =>
      rw [hg, cond_true, Nat.max_zero] at ih'
      refine cnd_t (nt rfl) ?_
      rw [nI_1]; exact ih'
    | false =>
      rw [hg, cond_false] at ih'
      refine cnd_f (nf rfl) ?_
      rw [nI_add]
      refine bd (e_toldOf hW hC (by omega) (by omega)) ?_
      dsimp only
      rw [show nI (tellN (aKd A j) (aSh A j) (aH A (P + j))) = hv (tellN (aKd A j) (aSh A j) (aH A (P + j)) + 1) from rfl, hv_max _ (by omega) _ (by omega), nI_1]
      exact ih'
theorem e_tog {A : AS} {σ : PS} (hW : WF A) (hC : RC A σ) {P : Nat} (hP : P + aK A ≤ aW A * aT A) : F_X1_toldTogether (nI P) σ = some (nI (smN A P (aK A)), σ) := by
  have e := tog_run hW hC hP (aK A) fuelN 0 (by omega) (by have := wf_b hW; unfold fuelN; omega)
  rw [show nI (smN A P 0) = 0 from nI_0, nI_0] at e
  exact e
theorem e_mst {A : AS} {σ : PS} (hW : WF A) (hC : RC A σ) {P : Nat} (hP : P + aK A ≤ aW A * aT A) : F_X1_mostTold (nI P) σ = some (hv (mxN A P (aK A)), σ) := by
  have e := mst_run hW hC hP (aK A) fuelN 0 (by omega) (by have := wf_b hW; unfold fuelN; omega)
  rw [show hv (mxN A P 0) = -9 from rfl, nI_0] at e
  exact e
/-- the model's inner loop of a VOYAGE -/
theorem vin_run {A : AS} {σ : PS} (hW : WF A) (hn : aW A ≠ 0) (hM : RM A σ) {s0 h0 : Nat} (hh : h0 ≤ 21) (x1 x2 x3 x4 x7 : Int32) : ∀ (m g j : Nat), j + m = aK A → L_X5_voyageBy (g + m + 1) 53 x1 x2 x3 x4 (nI (s0 + smN A (aP A) j)) (hv (max h0 (mxN A (aP A) j))) x7 (nI j) σ = L_X5_voyageBy g 14 x1 x2 x3 x4 (nI (s0 + smN A (aP A) (aK A))) (hv (max h0 (mxN A (aP A) (aK A)))) (x7 + 1) 0 σ := by
  have hb := wf_b hW
  have hw := wf_n hW hn
  have hP : aP A + aK A ≤ aW A * aT A := by
    have := wf_P hW (k := aK A - 1) (by omega)
    omega
  intro m
  induction m with
  | zero =>
    intro g j hj
    rw [show j = aK A from by omega]
    rw [show g + 0 + 1 = g + 1 from rfl, L_X5_voyageBy]
    exact cnd_f (by decide) (cnd_t (by decide) (cnd_t (by rw [hM.1.2.2.1, cGe_nI (by omega) (by omega)]; exact dt (by omega)) rfl))
  | succ m ih =>
    intro g j hj
    have ih' := ih g (j + 1) (by omega)
    have hm := mxN_le hW hP j (by omega)
    have ht := tell_le (kd := aKd A j) (sh := aSh A j) (hW.2.1.1 (aP A + j) (by omega))
    rw [show smN A (aP A) (j + 1) = smN A (aP A) j + (bif (aG A).testBit j then 0 else tellN (aKd A j) (aSh A j) (aH A (aP A + j))) from rfl, show mxN A (aP A) (j + 1) = max (mxN A (aP A) j) (bif (aG A).testBit j then 0 else tellN (aKd A j) (aSh A j) (aH A (aP A + j)) + 1) from rfl] at ih'
    rw [← Nat.add_assoc s0] at ih'
    rw [← ih', show g + (m + 1) + 1 = (g + m + 1) + 1 from rfl, L_X5_voyageBy]
    refine cnd_f (by decide) (cnd_t (by decide) (cnd_f (by rw [hM.1.2.2.1, cGe_nI (by omega) (by omega)]; exact df (by omega)) ?_))
    rw [hM.1.2.2.2.2.2.2.1]
    refine bd (e_isIn hW (by omega)) ?_
    cases hg : (aG A).testBit j with
    | true =>
      rw [cond_true, cond_true, Nat.max_zero, Nat.add_zero]
      refine cnd_f (et rfl) (cnd_t (hv_m9 _ (by omega)) ?_)
      rw [show (0 : Int32) = nI 0 from rfl, nI_add, nI_1, Nat.add_zero]
    | false =>
      rw [cond_false, cond_false]
      refine cnd_t (ef rfl) (bd (e_placeOf hM j) (cnd_t (vin_of_lt (by omega) (by decide)) ?_))
      rw [tn (by omega)]
      dsimp only
      rw [hM.2.1.1 _ (by omega)]
      refine bd (e_tells hW hM (by omega) (hW.2.1.1 _ (by omega))) (cnd_t (cGe_p (by omega)) ?_)
      dsimp only
      rw [hv_le _ (by omega) _ (by omega), nI_add, nI_1]
      by_cases q : tellN (aKd A j) (aSh A j) (aH A (aP A + j)) + 1 ≤ max h0 (mxN A (aP A) j)
      · rw [dt q, cond_true, show max h0 (max (mxN A (aP A) j) (tellN (aKd A j) (aSh A j) (aH A (aP A + j)) + 1)) = max h0 (mxN A (aP A) j) from by omega]
      · rw [df q, cond_false, show max h0 (max (mxN A (aP A) j) (tellN (aKd A j) (aSh A j) (aH A (aP A + j)) + 1)) = tellN (aKd A j) (aSh A j) (aH A (aP A + j)) + 1 from by omega]
        rfl
def Kept (A : AS) (σ : PS) : Prop := gI σ 1237 = nI (aC A) ∧ gI σ 1238 = nI (aR A) ∧ gL σ 1239 = lN (aS A)
theorem st_M {A : AS} {σ : PS} {c r S s : Nat} (hW : WF (setP A c r S)) (hn : aW A ≠ 0) (hM : RM (setP A c r S) σ) (hK : Kept A σ) (hs : s < 4) : ∃ σ', F_X5_steps (nI s) σ = some (bI (okS (aW A) (aT A) (aK A) s c r), σ') ∧ Kept A σ' ∧ eqC σ σ' ∧ (okS (aW A) (aT A) (aK A) s c r = true → WF (setP A (stC s c) (stR s r) (S ||| ovN A (aW A * stR s r + stC s c))) ∧ RM (setP A (stC s c) (stR s r) (S ||| ovN A (aW A * stR s r + stC s c))) σ') ∧ (okS (aW A) (aT A) (aK A) s c r = false → σ' = σ) := by
  have e := m_steps hW hn hM hs
  have eo : okA (setP A c r S) s = okS (aW A) (aT A) (aK A) s c r := rfl
  rw [eo] at e
  cases ho : okS (aW A) (aT A) (aK A) s c r with
  | false =>
    rw [ho] at e
    exact ⟨σ, e, hK, eqC.rf, (fun q => by cases q), fun _ => rfl⟩
  | true =>
    rw [ho] at e
    refine ⟨_, e, ⟨?_, ?_, ?_⟩, ((eqC_sI (by decide)).tr (eqC_sI (by decide))).tr (eqC_sL (by decide)), fun _ => ?_, fun q => by cases q⟩
    · rw [cond_true]; unfold mvM; rw [gI_sL, gI_sI, if_neg (by decide), gI_sI, if_neg (by decide)]; exact hK.1
    · rw [cond_true]; unfold mvM; rw [gI_sL, gI_sI, if_neg (by decide), gI_sI, if_neg (by decide)]; exact hK.2.1
    · rw [cond_true]; unfold mvM; rw [gL_sL, if_neg (by decide), gL_sI, gL_sI]; exact hK.2.2
    · have h1 := WF_mv hW hn (eo.trans ho)
      have h2 := RM_mv s hM
      have h3 : mvA (setP A c r S) s = setP A (stC s c) (stR s r) (S ||| ovN A (aW A * stR s r + stC s c)) := setP_P A c r S _ _ _
      rw [h3] at h1 h2
      exact ⟨h1, h2⟩
theorem e_keep {A : AS} {σ : PS} (hM : RM A σ) : ∃ σ', F_X5_keepAll σ = some ((), σ') ∧ RM A σ' ∧ Kept A σ' ∧ eqC σ σ' := by
  refine ⟨_, rfl, ?_, ⟨?_, ?_, ?_⟩, ((eqC_sI (by decide)).tr (eqC_sI (by decide))).tr (eqC_sL (by decide))⟩
  · obtain ⟨⟨a1, a2, a3, a4, a5, a6, a7, a8⟩, h2, ⟨h4, h5⟩, h6, h7, h8⟩ := hM
    exact ⟨⟨a1, a2, a3, a4, a5, a6, a7, a8⟩, h2, ⟨h4, h5⟩, h6, h7, h8⟩
  · rw [gI_sL, gI_sI, if_neg (by decide), gI_sI, if_pos rfl]; exact hM.1.2.2.2.1
  · rw [gI_sL, gI_sI, if_pos rfl, gI_sI, if_neg (by decide)]; exact hM.1.2.2.2.2.1
  · rw [gL_sL, if_pos rfl]; exact hM.1.2.2.2.2.2.2.2
theorem e_back {A : AS} {σ : PS} {c r S : Nat} (hM : RM (setP A c r S) σ) (hK : Kept A σ) : ∃ σ', F_X5_bringBack σ = some ((), σ') ∧ RM A σ' ∧ Kept A σ' ∧ eqC σ σ' := by
  refine ⟨_, rfl, ?_, ⟨?_, ?_, ?_⟩, ((eqC_sI (by decide)).tr (eqC_sI (by decide))).tr (eqC_sL (by decide))⟩
  · have q := RM_P (aC A) (aR A) (aS A) hM
    rw [setP_P, setP_id] at q
    have e1 : gI (sI σ 1220 (gI σ 1237)) 1238 = nI (aR A) := by rw [gI_sI, if_neg (by decide)]; exact hK.2.1
    have e2 : gL (sI (sI σ 1220 (gI σ 1237)) 1221 (gI (sI σ 1220 (gI σ 1237)) 1238)) 1239 = lN (aS A) := hK.2.2
    rw [e2, e1, hK.1]
    exact q
  · rw [gI_sL, gI_sI, if_neg (by decide), gI_sI, if_neg (by decide)]; exact hK.1
  · rw [gI_sL, gI_sI, if_neg (by decide), gI_sI, if_neg (by decide)]; exact hK.2.1
  · rw [gL_sL, if_neg (by decide)]; exact hK.2.2
