/-! way: the class' side -/
def ansN (u R d L k : Nat) : Int32 := if k < u then 0 else if k < u + R then 1 else if k < u + R + d then 2 else if k < u + R + d + L then 3 else -9
/-- the answer of way, M being the columns of the places wanted -/
def wayA (M sc sr cr : Nat) (p : Int32) : Int32 := if M = 0 then -9 else bif cGe p 0 then ansN (sr - cr) (tgS M sc - sc) (cr - sr) (sc - tgS M sc) p.toNatClampNeg else nI (sr - cr + (tgS M sc - sc) + (cr - sr) + (sc - tgS M sc))
theorem tg_le {M c : Nat} (h : M < 64) (hc : c < 6) (h0 : M ≠ 0) : tgS M c < 6 := by
  have := (ds_1 M h c hc h0).2
  rcases Nat.lt_or_ge (tgS M c) 6 with q | q
  · exact q
  · rw [Nat.testBit_lt_two_pow (Nat.lt_of_lt_of_le h (Nat.pow_le_pow_right (n := 2) (by decide) q))] at this
    cases this
theorem faC_run {A : AS} {σ : PS} (hW : WF A) (hn : aW A ≠ 0) (hC : RC A σ) {cc cr : Nat} (hcc : cc < aW A) (hcr : cr < aT A) : ∀ (m f k b : Nat), k + m = aK A → m < f → b ≤ 6 → L_X1_fewestAcross f (nI (aW A * cr + cc)) (acr (aC A) b) (nI k) σ = some (acr (aC A) (faN (aW A) (aK A) (aG A) cc (aC A) m k b), σ) := by
  have hb := wf_b hW
  have hw := wf_n hW hn
  intro m
  induction m with
  | zero =>
    intro f k b hk hf hb6
    obtain ⟨f, rfl⟩ : ∃ f', f = f' + 1 := ⟨f - 1, by omega⟩
    rw [L_X1_fewestAcross]
    exact cnd_t (by rw [hC.1.2.2.1, cGe_nI (by omega) (by omega)]; exact dt (by omega)) rfl
  | succ m ih =>
    intro f k b hk hf hb6
    obtain ⟨f, rfl⟩ : ∃ f', f = f' + 1 := ⟨f - 1, by omega⟩
    have ih' := fun b hb => ih f (k + 1) b (by omega) (by omega) hb
    rw [L_X1_fewestAcross, faN]
    refine cnd_f (by rw [hC.1.2.2.1, cGe_nI (by omega) (by omega)]; exact df (by omega)) (bd (e_columnOf hW hC hcc hcr) (bd (e_isGone hW hC (by omega)) ?_))
    cases hg : (aG A).testBit k with
    | true =>
      rw [Bool.true_or, Bool.true_or, cond_true]
      refine cnd_t (nt rfl) ?_
      rw [nI_1]; exact ih' b hb6
    | false =>
      rw [Bool.false_or, blt_d, blt_d, ble_d]
      refine cnd_f (nf rfl) ?_
      dsimp only
      rw [lt_sub cc (by omega) k (by omega), blt_d, nI_1]
      by_cases h1 : cc < k
      · rw [dt h1, Bool.true_or, cond_true, cond_true]
        exact ih' b hb6
      · rw [df h1, Bool.false_or, cond_false, pk_sub (by omega), hC.1.2.2.1, hC.1.1, nI_add, cLe_nI (by omega) (by omega)]
        by_cases h2 : aW A < cc - k + aK A
        · rw [dt h2, df (by omega), cond_true, cond_false]
          exact ih' b hb6
        · rw [df h2, dt (by omega), cond_true, cond_false, hC.1.2.2.2.2.1]
          refine bd (e_columnOf hW hC (c := aC A) (r := aR A) (by omega) hw.2.2.2.2.2.2.2.1) ?_
          dsimp only
          rw [ia_cmp (cc - k) (by omega) (aC A) (by omega) b (by omega), ble_d]
          by_cases h3 : disb (aC A) b ≤ abd (cc - k) (aC A)
          · rw [dt h3, cond_true, cond_true]
            exact ih' b hb6
          · rw [df h3, cond_false, cond_false]
            exact ih' (cc - k + 1) (by omega)
theorem ans_C (u R d L k : Nat) (hu : u < 1000) (hR : R < 1000) (hd : d < 1000) (hL : L < 1000) (hk : k < 1000) (σ : PS) : (bif cGe (nI k) (nI u) then (bif cGe (nI k) (nI u + nI R) then (bif cGe (nI k) (nI u + nI R + nI d) then (bif cGe (nI k) (nI u + nI R + nI d + nI L) then some (-9, σ) else some (3, σ)) else some (2, σ)) else some (1, σ)) else some (0, σ)) = some (ansN u R d L k, σ) := by
  rw [nI_add, nI_add, nI_add, cGe_nI (by omega) (by omega), cGe_nI (by omega) (by omega), cGe_nI (by omega) (by omega), cGe_nI (by omega) (by omega)]
  unfold ansN
  by_cases h1 : k < u
  · rw [if_pos h1, df (by omega)]; rfl
  · rw [if_neg h1, dt (by omega), cond_true]
    by_cases h2 : k < u + R
    · rw [if_pos h2, df (by omega)]; rfl
    · rw [if_neg h2, dt (by omega), cond_true]
      by_cases h3 : k < u + R + d
      · rw [if_pos h3, df (by omega)]; rfl
      · rw [if_neg h3, dt (by omega), cond_true]
        by_cases h4 : k < u + R + d + L
        · rw [if_pos h4, df (by omega)]; rfl
        · rw [if_neg h4, dt (by omega)]; rfl
theorem e_ofWay {A : AS} {σ : PS} (hW : WF A) (hn : aW A ≠ 0) (hC : RC A σ) {cc cr : Nat} {p : Int32} (hcc : cc < aW A) (hcr : cr < aT A) (hp : p = -1 ∨ ∃ j, j ≤ 9 ∧ p = nI j) : F_X1_ofWay (nI (aW A * cr + cc)) p σ = some (wayA (mM (aW A) (aK A) (aG A) cc) (aC A) (aR A) cr p, σ) := by
  have hb := wf_b hW
  have hw := wf_n hW hn
  have hM := mM_lt (aW A) (aK A) (aG A) cc
  have e := faC_run hW hn hC hcc hcr (aK A) fuelN 0 0 (by omega) (by unfold fuelN; omega) (by decide)
  rw [nI_0, fa_is (by omega) (by omega) (by omega) (wf_G hW).2 (wf_G hW).1 hcc hw.2.2.2.2.2.2.1] at e
  unfold F_X1_ofWay wayA
  refine bd (r := F_X1_fewestAcross _ _) e ?_
  by_cases h0 : mM (aW A) (aK A) (aG A) cc = 0
  · rw [if_pos h0, if_pos h0]
    exact cnd_f (show cNe 99 99 = false from by decide) rfl
  · have ht := tg_le hM (c := aC A) (by omega) h0
    obtain ⟨p1, p2, p3⟩ := ia_pm (tgS (mM (aW A) (aK A) (aG A) cc) (aC A)) ht (aC A) (by omega)
    obtain ⟨q1, q2, q3⟩ := ia_pm cr (by omega) (aR A) (by omega)
    rw [if_neg h0, if_neg h0, show acr (aC A) (tgS (mM (aW A) (aK A) (aG A) cc) (aC A) + 1) = nI (tgS (mM (aW A) (aK A) (aG A) cc) (aC A)) - nI (aC A) from rfl]
    refine cnd_t p3 (bd (e_rowOf hW hC hcc hcr) ?_)
    dsimp only
    rw [hC.1.2.2.2.2.1]
    refine bd (e_rowOf hW hC (c := aC A) (r := aR A) (by omega) hw.2.2.2.2.2.2.2.1) ?_
    dsimp only
    rw [Option.bind_some, p1, p2, q1, q2]
    rcases hp with rfl | ⟨j, hj, rfl⟩
    · rw [nI_add, nI_add, nI_add]; rfl
    · rw [cGe_p (by omega), cond_true, cond_true, tn (by omega)]
      exact ans_C _ _ _ _ _ (by omega) (by omega) (by omega) (by omega) (by omega) σ
