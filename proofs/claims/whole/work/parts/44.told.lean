/-! what a LOOKER tells; ofLooker -/
def tellN (kd sh h : Nat) : Nat := if kd = 0 then h - sh else if kd = 1 then (h - sh) + 1 else 2 * (h - sh) + 2
theorem imax_n : ∀ h, h < 10 → ∀ s, s < 10 → imax (nI h - nI s) 0 = nI (h - s) := by decide +kernel
theorem e_told {kd sh h : Nat} (σ : PS) (h1 : kd ≤ 2) (h2 : sh ≤ 9) (h3 : h ≤ 9) : F_X1_told (nI kd) (nI sh) (nI h) σ = some (nI (tellN kd sh h), σ) := by
  unfold F_X1_told
  rw [imax_n h (by omega) sh (by omega)]
  have h3 : kd = 0 ∨ kd = 1 ∨ kd = 2 := by omega
  rcases h3 with rfl | rfl | rfl
  · rfl
  · rw [show cNe (nI 1) 0 = true from by decide, show cNe (nI 1) 1 = false from by decide, cond_true, cond_false, nI_1]; rfl
  · rw [show cNe (nI 2) 0 = true from by decide, show cNe (nI 2) 1 = true from by decide, cond_true, cond_true, nI_1, show (2 : Int32) = nI 2 from rfl, pk_mul]; rfl
theorem e_toldOf {A : AS} {σ : PS} (hW : WF A) (hC : RC A σ) {k c : Nat} (hk : k < aK A) (hc : c < aW A * aT A) : F_X1_toldOf (nI k) (nI c) σ = some (nI (tellN (aKd A k) (aSh A k) (aH A c)), σ) := by
  unfold F_X1_toldOf
  rw [e_kindOf hW hC hk, Option.bind_some]
  dsimp only
  rw [e_shortOf hW hC hk, Option.bind_some]
  dsimp only
  rw [e_heightOf hW hC hc, Option.bind_some]
  dsimp only
  rw [e_told σ (wf_kd hW hk).1 (wf_kd hW hk).2 (hW.2.1.1 c hc)]; rfl
theorem e_tells {A : AS} {σ : PS} (hW : WF A) (hM : RM A σ) {k h : Nat} (hk : k < aK A) (hh : h ≤ 9) : F_X5_tells (nI k) (nI h) σ = some (nI (tellN (aKd A k) (aSh A k) h), σ) := by
  have hb := (wf_b hW).2.2.1
  obtain ⟨w1, w2⟩ := wf_kd hW hk
  unfold F_X5_tells
  rw [vin_of_lt (by omega) (by decide), cond_true, tn (by omega), (hM.2.1.2 k hk).2, (hM.2.1.2 k hk).1, cLe_nI (by omega) (by omega)]
  simp only [cond_true]
  have h3 : aKd A k = 0 ∨ aKd A k = 1 ∨ aKd A k = 2 := by omega
  by_cases hl : h ≤ aSh A k
  · rw [decide_eq_true hl, cond_true]
    have e : h - aSh A k = 0 := by omega
    rcases h3 with q | q | q <;> rw [q] <;> unfold tellN <;> rw [e] <;> rfl
  · rw [decide_eq_false hl, cond_false, pk_sub (by omega)]
    rcases h3 with q | q | q <;> rw [q]
    · rfl
    · rw [show cNe (nI 1) 0 = true from by decide, show cNe (nI 1) 1 = false from by decide, cond_true, cond_false, nI_1]; rfl
    · rw [show cNe (nI 2) 0 = true from by decide, show cNe (nI 2) 1 = true from by decide, cond_true, cond_true, show (2 : Int32) = nI 2 from rfl, pk_mul, nI_add]; rfl
theorem bits_o : ∀ K, K < 5 → ∀ G, G < 16 → ∀ k, k < 4 → k < K → G < 2 ^ K → (shr (nI ((2 ^ K - 1) ^^^ G)) (nI k) &&& 1) = (bif G.testBit k then 0 else 1) := by decide +kernel
theorem bits_g : ∀ G, G < 16 → ∀ k, k < 4 → (shr (nI G) (nI k) &&& 1) = (bif G.testBit k then 1 else 0) := by decide +kernel
theorem wf_G {A : AS} (h : WF A) : aG A < 16 ∧ aG A < 2 ^ aK A := by
  rcases h.1 with ⟨a, b, c, d, e, f, g, m⟩ | ⟨a, b, c, d, e, f, g, m, q, l, r⟩
  · rw [f, c]; decide
  · refine ⟨Nat.lt_of_lt_of_le q ?_, q⟩
    exact Nat.pow_le_pow_right (by decide) f
theorem e_isGone {A : AS} {σ : PS} (hW : WF A) (hC : RC A σ) {k : Nat} (hk : k < aK A) : F_X1_isGone (nI k) σ = some (bI ((aG A).testBit k), σ) := by
  have hb := (wf_b hW).2.2.1
  obtain ⟨g1, g2⟩ := wf_G hW
  unfold F_X1_isGone
  rw [hC.1.2.2.2.1, show nI (aO A) = nI ((2 ^ aK A - 1) ^^^ aG A) from rfl, bits_o _ (by omega) _ g1 k (by omega) hk g2]
  cases (aG A).testBit k <;> rfl
theorem e_isIn {A : AS} {σ : PS} (hW : WF A) {k : Nat} (hk : k < 4) : F_X5_isIn (nI (aG A)) (nI k) σ = some (bI ((aG A).testBit k), σ) := by
  unfold F_X5_isIn
  rw [bits_g _ (wf_G hW).1 k hk]
  cases (aG A).testBit k <;> rfl
theorem wf_P {A : AS} (h : WF A) {k : Nat} (hk : k < aK A) : aP A + k < aW A * aT A := by
  rcases h.1 with ⟨a, b, c, d, e, f, g, m⟩ | ⟨a, b, c, d, e, f, g, m, q, l, r⟩
  · omega
  · have h1 : aW A * (aR A + 1) ≤ aW A * aT A := Nat.mul_le_mul_left _ m
    rw [Nat.mul_succ] at h1
    unfold aP
    omega
theorem e_placeOf {A : AS} {σ : PS} (hM : RM A σ) (k : Nat) : F_X5_placeOf (nI k) σ = some (nI (aP A + k), σ) := by
  unfold F_X5_placeOf
  rw [hM.1.1, hM.1.2.2.2.2.1, hM.1.2.2.2.1, pk_mul, nI_add, nI_add]; rfl
theorem pr_ofLooker (σ : PS) (h : Rel σ) (p0 p1 : Int32) : Pair (F_X4_ofLooker p0 p1) (F_X5_ofLooker p0 p1) σ := pair_of h fun A hW => by
  have hb := (wf_b hW).2.2.1
  have hb4 := (wf_b hW).2.2.2.1
  cases hv : vin p0 (aK A) with
  | false =>
    refine ⟨-1, A, hW, ansC_q fun σ hC => ?_, ansM_q fun σ hM => ?_⟩
    · unfold F_X4_ofLooker
      rw [e_isLooker hW hC, hv]; rfl
    · unfold F_X5_ofLooker
      rw [e_noLooker hW hM, hv]; rfl
  | true =>
    obtain ⟨j, hj, rfl⟩ := vin_ex hv (by omega)
    have hP := wf_P hW hj
    have v4 : vin (nI j) 4 = true := vin_of_lt (by omega) (by decide)
    have eC : ∀ σ, RC A σ → F_X4_ofLooker (nI j) p1 σ = bif decide (p1 = 0) then some (nI (aKd A j), σ) else bif decide (p1 = 1) then some (nI (aSh A j), σ) else bif decide (p1 = 2) then some (bI ((aG A).testBit j), σ) else bif decide (p1 = 3) then some (nI (aP A + j), σ) else bif decide (p1 = 4) then some (nI (tellN (aKd A j) (aSh A j) (aH A (aP A + j))), σ) else some (-2, σ) := by
      intro σ hC
      unfold F_X4_ofLooker
      rw [e_isLooker hW hC, hv, Option.bind_some]
      dsimp only
      rw [cNe_bI, cond_true, e_kindOf hW hC hj, e_shortOf hW hC hj, e_isGone hW hC hj]
      unfold F_X1_place
      rw [hC.1.2.2.2.2.1]
      simp only [Option.bind_some, nI_add]
      rw [e_toldOf hW hC hj hP]
      cases (aG A).testBit j <;> rfl
    have eM : ∀ σ, RM A σ → F_X5_ofLooker (nI j) p1 σ = bif decide (p1 = 0) then some (nI (aKd A j), σ) else bif decide (p1 = 1) then some (nI (aSh A j), σ) else bif decide (p1 = 2) then some (bI ((aG A).testBit j), σ) else bif decide (p1 = 3) then some (nI (aP A + j), σ) else bif decide (p1 = 4) then some (nI (tellN (aKd A j) (aSh A j) (aH A (aP A + j))), σ) else some (-2, σ) := by
      intro σ hM
      unfold F_X5_ofLooker
      rw [e_noLooker hW hM, hv, Option.bind_some]
      dsimp only
      rw [cEq_bI, Bool.not_true, Bool.not_false, cond_true, v4, tn (by omega), (hM.2.1.2 j hj).1, (hM.2.1.2 j hj).2, e_placeOf hM, hM.1.2.2.2.2.2.2.1, bits_g _ (wf_G hW).1 j (by omega)]
      simp only [Option.bind_some, cond_true]
      rw [vin_of_lt (by omega) (by decide), cond_true, tn (by omega), hM.2.1.1 _ hP, e_tells hW hM hj (hW.2.1.1 _ hP)]
      cases (aG A).testBit j <;> rfl
    have fin : ∀ v : Int32, (∀ σ, RC A σ → F_X4_ofLooker (nI j) p1 σ = some (v, σ)) → (∀ σ, RM A σ → F_X5_ofLooker (nI j) p1 σ = some (v, σ)) → ∃ (v : Int32) (A' : AS), WF A' ∧ ansC (F_X4_ofLooker (nI j) p1) A v A' ∧ ansM (F_X5_ofLooker (nI j) p1) A v A' := fun v h1 h2 => ⟨v, A, hW, ansC_q h1, ansM_q h2⟩
    cases d0 : decide (p1 = 0) with
    | true => exact fin _ (fun σ hC => (eC σ hC).trans (by rw [d0]; rfl)) (fun σ hM => (eM σ hM).trans (by rw [d0]; rfl))
    | false =>
    cases d1 : decide (p1 = 1) with
    | true => exact fin _ (fun σ hC => (eC σ hC).trans (by rw [d0, d1]; rfl)) (fun σ hM => (eM σ hM).trans (by rw [d0, d1]; rfl))
    | false =>
    cases d2 : decide (p1 = 2) with
    | true => exact fin _ (fun σ hC => (eC σ hC).trans (by rw [d0, d1, d2]; rfl)) (fun σ hM => (eM σ hM).trans (by rw [d0, d1, d2]; rfl))
    | false =>
    cases d3 : decide (p1 = 3) with
    | true => exact fin _ (fun σ hC => (eC σ hC).trans (by rw [d0, d1, d2, d3]; rfl)) (fun σ hM => (eM σ hM).trans (by rw [d0, d1, d2, d3]; rfl))
    | false =>
    cases d4 : decide (p1 = 4) with
    | true => exact fin _ (fun σ hC => (eC σ hC).trans (by rw [d0, d1, d2, d3, d4]; rfl)) (fun σ hM => (eM σ hM).trans (by rw [d0, d1, d2, d3, d4]; rfl))
    | false => exact fin _ (fun σ hC => (eC σ hC).trans (by rw [d0, d1, d2, d3, d4]; rfl)) (fun σ hM => (eM σ hM).trans (by rw [d0, d1, d2, d3, d4]; rfl))
