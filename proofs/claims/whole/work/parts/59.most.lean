/-! the pair of most -/
def dg (row e : Nat) : Nat := row / 4 ^ e % 4
theorem dg_sh : ∀ e, e < 5 → ∀ row, row < 1024 → (shr (nI row) (2 * nI e)) &&& 3 = nI (row / 4 ^ e % 4) := by decide +kernel
theorem dg_lt (row e : Nat) : dg row e < 4 := Nat.mod_lt _ (by decide)
theorem shl_4 : ∀ n, n < 6 → shl 1 (2 * nI n) = nI (4 ^ n) := by decide +kernel
theorem hv_cmp : ∀ a, a < 43 → ∀ b, b < 43 → cLe (hv a) (hv b) = decide (a ≤ b) := by decide +kernel
def gnR (A : AS) (row : Nat) : Nat → Nat → Nat → Nat → Nat
  | 0, _, _, met => popN 40 (dif met (aS A)) + 1
  | m + 1, c, r, met => bif okS (aW A) (aT A) (aK A) (dg row m) c r then gnR A row m (stC (dg row m) c) (stR (dg row m) r) (met ||| ovN A (aW A * stR (dg row m) r + stC (dg row m) c)) else 0
theorem gnR_le (A : AS) (row : Nat) : ∀ m c r met, gnR A row m c r met ≤ 41 := by
  intro m
  induction m with
  | zero => intro c r met; have := popN_le 40 (dif met (aS A)); show popN 40 _ + 1 ≤ 41; omega
  | succ m ih =>
    intro c r met
    show (bif okS (aW A) (aT A) (aK A) (dg row m) c r then _ else 0) ≤ 41
    cases okS (aW A) (aT A) (aK A) (dg row m) c r with
    | true => exact ih _ _ _
    | false => exact Nat.zero_le _
theorem gnC_run {A : AS} {σ : PS} (hW : WF A) (hn : aW A ≠ 0) (hC : RC A σ) {row n : Nat} (hr1 : row < 1024) (hn5 : n ≤ 5) : ∀ (m f k c r met : Nat), k + m = n → m < f → c + aK A ≤ aW A → r < aT A → met < 2 ^ (aW A * aT A) → L_X1_gainOf f (nI row) (nI n) (nI (aW A * r + c)) (lN met) (nI k) σ = some (hv (gnR A row m c r met), σ) := by
  have hb := wf_b hW
  have hw := wf_n hW hn
  intro m
  induction m with
  | zero =>
    intro f k c r met hp hf hc hr hm
    obtain ⟨f, rfl⟩ : ∃ f', f = f' + 1 := ⟨f - 1, by omega⟩
    have hm40 : dif met (aS A) < 2 ^ 40 := Nat.lt_of_le_of_lt (dif_le _ _) (Nat.lt_of_lt_of_le hm (Nat.pow_le_pow_right (by decide) (by omega)))
    rw [L_X1_gainOf]
    refine cnd_t (by rw [cGe_nI (by omega) (by omega)]; exact dt (by omega)) ?_
    rw [hC.1.2.2.2.2.2.1, dif_L]
    exact bd (jlbits hm40 σ) rfl
  | succ m ih =>
    intro f k c r met hp hf hc hr hm
    obtain ⟨f, rfl⟩ : ∃ f', f = f' + 1 := ⟨f - 1, by omega⟩
    have hs : F_X1_stepOfRow (nI row) (nI n) (nI k) σ = some (nI (dg row m), σ) := by
      unfold F_X1_stepOfRow
      obtain ⟨n, rfl⟩ : ∃ n', n = n' + 1 := ⟨n - 1, by omega⟩
      rw [nI_pred, pk_sub (by omega), show n - k = m from by omega, dg_sh m (by omega) row hr1]; rfl
    rw [L_X1_gainOf]
    refine cnd_f (by rw [cGe_nI (by omega) (by omega)]; exact df (by omega)) (bd hs (bd (e_next hW hn hC hc hr (dg_lt row m)) ?_))
    show _ = some (hv (bif okS (aW A) (aT A) (aK A) (dg row m) c r then gnR A row m (stC (dg row m) c) (stR (dg row m) r) (met ||| ovN A (aW A * stR (dg row m) r + stC (dg row m) c)) else 0), σ)
    cases ho : okS (aW A) (aT A) (aK A) (dg row m) c r with
    | false =>
      rw [cond_false, cond_false]
      exact cnd_f (show cNe (-9) (-9) = false from by decide) rfl
    | true =>
      obtain ⟨k1, k2⟩ := okS_in ho hc hr
      have hl := cell_lt (W := aW A) (c := stC (dg row m) c) (r := stR (dg row m) r) (T := aT A) (by omega) k2
      rw [cond_true, cond_true]
      refine cnd_t (ne_m9 (by omega)) (bd (e_seenFrom hW hC (by omega)) ?_)
      dsimp only
      rw [fb_orL, nI_1]
      exact ih f (k + 1) _ _ _ (by omega) (by omega) k1 k2 (Nat.or_lt_two_pow hm (ov_lt hW k1 k2 hn))
theorem gnM_run {A : AS} (hWA : WF A) (hn : aW A ≠ 0) {row : Nat} (hr1 : row < 1024) : ∀ (m f c r met : Nat) (σ : PS), m ≤ 5 → m + 1 < f → WF (setP A c r (aS A ||| met)) → RM (setP A c r (aS A ||| met)) σ → Kept A σ → ∃ σ', L_X5_seenBy f (nI row) (bI true) (nI m - 1) σ = some (hv (gnR A row m c r met), σ') ∧ RM A σ' ∧ Kept A σ' ∧ eqC σ σ' := by
  have hb := wf_b hWA
  have hw := wf_n hWA hn
  intro m
  induction m with
  | zero =>
    intro f c r met σ h5 hf hW hM hK
    obtain ⟨f, rfl⟩ : ∃ f', f = f' + 1 := ⟨f - 1, by omega⟩
    obtain ⟨σ1, e1, m1, k1, q1⟩ := e_back hM hK
    refine ⟨σ1, ?_, m1, k1, q1⟩
    rw [L_X5_seenBy]
    refine cnd_t (by decide) (cnd_f (et rfl) ?_)
    rw [hM.1.2.2.2.2.2.2.2]
    refine bd (e_bits (S_40 hW) σ) ?_
    dsimp only
    rw [hK.2.2]
    refine bd (e_bits (S_40 hWA) σ) (bd e1 ?_)
    show some (nI (popN 40 (aS A ||| met)) - nI (popN 40 (aS A)), σ1) = some (nI (popN 40 (dif met (aS A))), σ1)
    rw [popN_or 40 _ _ (by decide), pk_sub (by omega), Nat.add_sub_cancel_left]
  | succ m ih =>
    intro f c r met σ h5 hf hW hM hK
    obtain ⟨f, rfl⟩ : ∃ f', f = f' + 1 := ⟨f - 1, by omega⟩
    obtain ⟨σ1, e1, hK1, hE1, ht, hf2⟩ := st_M hW hn hM hK (dg_lt row m)
    have e1 : F_X5_steps (shr (nI row) (2 * nI m) &&& 3) σ = some (bI (okS (aW A) (aT A) (aK A) (dg row m) c r), σ1) := by
      rw [dg_sh m (by omega) row hr1]; exact e1
    rw [nI_pred, show gnR A row (m + 1) c r met = bif okS (aW A) (aT A) (aK A) (dg row m) c r then gnR A row m (stC (dg row m) c) (stR (dg row m) r) (met ||| ovN A (aW A * stR (dg row m) r + stC (dg row m) c)) else 0 from rfl]
    cases ho : okS (aW A) (aT A) (aK A) (dg row m) c r with
    | true =>
      obtain ⟨hW2, hM2⟩ := ht ho
      rw [Nat.or_assoc] at hW2 hM2
      obtain ⟨σ2, e3, hM3, hK3, hE3⟩ := ih f _ _ _ σ1 (by omega) (by omega) hW2 hM2 hK1
      refine ⟨σ2, ?_, hM3, hK3, hE1.tr hE3⟩
      rw [cond_true, ← e3, L_X5_seenBy]
      refine cnd_f (cLt_pos (by omega)) (cnd_f (et rfl) (bd e1 ?_))
      dsimp only
      rw [ho, Int32.sub_eq_add_neg]
    | false =>
      have := hf2 ho
      subst this
      obtain ⟨σ2, e2, m2, k2, q2⟩ := e_back hM hK
      refine ⟨σ2, ?_, m2, k2, q2⟩
      obtain ⟨f, rfl⟩ : ∃ f', f = f' + 1 := ⟨f - 1, by omega⟩
      rw [cond_false, L_X5_seenBy]
      refine cnd_f (cLt_pos (by omega)) (cnd_f (et rfl) (bd e1 ?_))
      dsimp only
      rw [ho, L_X5_seenBy]
      cases cLt (nI m + -1) 0 with
      | true => exact cnd_t rfl (cnd_t (ef rfl) (bd e2 rfl))
      | false => exact cnd_f rfl (cnd_t (ef rfl) (cnd_t (ef rfl) (bd e2 rfl)))
def gn0 (A : AS) (n row : Nat) : Nat := gnR A row n (aC A) (aR A) 0
def bstR (A : AS) (n : Nat) : Nat → Nat → Nat → Nat → Nat × Nat
  | 0, _, b, g => (b, g)
  | m + 1, row, b, g => if gn0 A n row ≤ g then bstR A n m (row + 1) b g else bstR A n m (row + 1) (row + 1) (gn0 A n row)
theorem bst_ok (A : AS) (n : Nat) : ∀ m row b g, b ≤ row → (b = 0 → g = 0) → (∀ z, b = z + 1 → g = gn0 A n z) → (bstR A n m row b g).1 ≤ row + m ∧ ((bstR A n m row b g).1 = 0 → (bstR A n m row b g).2 = 0) ∧ ∀ z, (bstR A n m row b g).1 = z + 1 → (bstR A n m row b g).2 = gn0 A n z := by
  intro m
  induction m with
  | zero => intro row b g h0 h1 h2; exact ⟨h0, h1, h2⟩
  | succ m ih =>
    intro row b g h0 h1 h2
    rw [bstR]
    split
    · have := ih (row + 1) b g (by omega) h1 h2
      exact ⟨by omega, this.2⟩
    · have := ih (row + 1) (row + 1) (gn0 A n row) (Nat.le_refl _) (fun q => by omega) (fun z q => by rw [show row = z from by omega])
      exact ⟨by omega, this.2⟩
theorem bsC_run {A : AS} {σ : PS} (hW : WF A) (hn : aW A ≠ 0) (hC : RC A σ) {n N : Nat} (hn5 : n ≤ 5) (hN : 4 ^ n = N) : ∀ (m f row b g : Nat), row + m = N → m < f → g ≤ 41 → L_X1_bestRow f (nI n) (hv b) (hv g) (nI row) σ = some (hv (bstR A n m row b g).1, σ) := by
  have hw := wf_n hW hn
  have hN2 : N ≤ 1024 := by rw [← hN]; exact Nat.pow_le_pow_right (by decide) hn5
  intro m
  induction m with
  | zero =>
    intro f row b g hr hf hg
    obtain ⟨f, rfl⟩ : ∃ f', f = f' + 1 := ⟨f - 1, by omega⟩
    rw [L_X1_bestRow]
    exact cnd_t (by rw [shl_4 n (by omega), hN, cGe_nI (by omega) (by omega)]; exact dt (by omega)) rfl
  | succ m ih =>
    intro f row b g hr hf hg
    obtain ⟨f, rfl⟩ : ∃ f', f = f' + 1 := ⟨f - 1, by omega⟩
    have hg2 : gn0 A n row ≤ 41 := gnR_le _ _ _ _ _ _
    have e : F_X1_gainOf (nI row) (nI n) σ = some (hv (gn0 A n row), σ) := by
      unfold F_X1_gainOf
      rw [hC.1.2.2.2.2.1]
      have := gnC_run hW hn hC (row := row) (by omega) hn5 n fuelN 0 (aC A) (aR A) 0 (by omega) (by unfold fuelN; omega) hw.2.2.2.2.2.2.1 hw.2.2.2.2.2.2.2.1 (Nat.two_pow_pos _)
      rw [nI_0] at this
      exact this
    rw [L_X1_bestRow, bstR]
    refine cnd_f (by rw [shl_4 n (by omega), hN, cGe_nI (by omega) (by omega)]; exact df (by omega)) (bd e ?_)
    dsimp only
    rw [hv_cmp _ (by omega) _ (by omega), nI_1]
    by_cases q : gn0 A n row ≤ g
    · rw [dt q, if_pos q]
      exact ih f (row + 1) b g (by omega) (by omega) hg
    · rw [df q, if_neg q]
      exact ih f (row + 1) (row + 1) (gn0 A n row) (by omega) (by omega) hg2
def mstA (n : Nat) (k : Int32) (q : Nat × Nat) : Int32 := bif cLt k 0 then hv q.2 else if q.1 = 0 then -9 else bif cGe k (nI n) then -9 else nI (dg (q.1 - 1) (n - 1 - k.toNatClampNeg))
theorem bsM_run {A : AS} (hW : WF A) (hn : aW A ≠ 0) {n N : Nat} (hn1 : 1 ≤ n) (hn5 : n ≤ 5) (hN : 4 ^ n = N) {k : Int32} (hk : cLt k 0 = true ∨ ∃ j, j ≤ 4 ∧ k = nI j) : ∀ (m f row b g : Nat) (σ : PS), row + m = N → m < f → g ≤ 41 → b ≤ row → (b = 0 → g = 0) → (∀ z, b = z + 1 → g = gn0 A n z) → RM A σ → Kept A σ → ∃ σ', L_X5_most f (nI n) k (hv b) (hv g) (nI row) σ = some (mstA n k (bstR A n m row b g), σ') ∧ RM A σ' ∧ eqC σ σ' := by
  have hN2 : N ≤ 1024 := by rw [← hN]; exact Nat.pow_le_pow_right (by decide) hn5
  intro m
  induction m with
  | zero =>
    intro f row b g σ hr hf hg hb hz1 hz2 hM hK
    obtain ⟨f, rfl⟩ : ∃ f', f = f' + 1 := ⟨f - 1, by omega⟩
    refine ⟨σ, ?_, hM, eqC.rf⟩
    rw [L_X5_most]
    refine cnd_t (by rw [shl_4 n (by omega), hN, cGe_nI (by omega) (by omega)]; exact dt (by omega)) ?_
    show _ = some (bif cLt k 0 then hv g else if b = 0 then -9 else bif cGe k (nI n) then -9 else nI (dg (b - 1) (n - 1 - k.toNatClampNeg)), σ)
    cases hc : cLt k 0 with
    | true => rfl
    | false =>
      rw [cond_false, cond_false]
      by_cases h0 : b = 0
      · rw [if_pos h0, h0, hz1 h0]; rfl
      · rw [if_neg h0]
        obtain ⟨b, rfl⟩ : ∃ b', b = b' + 1 := ⟨b - 1, by omega⟩
        refine cnd_t (show cGe (nI b) 0 = true from cGe_p (by omega)) ?_
        cases hq : cGe k (nI n) with
        | true => rfl
        | false =>
          rcases hk with h | ⟨j, hj, rfl⟩
          · rw [hc] at h; cases h
          · have hjn : ¬ n ≤ j := by
              rw [cGe_nI (by omega) (by omega)] at hq
              exact of_decide_eq_false hq
            obtain ⟨n, rfl⟩ : ∃ n', n = n' + 1 := ⟨n - 1, by omega⟩
            rw [cond_false, cond_false, nI_pred, pk_sub (by omega), tn (by omega)]
            have := dg_sh (n - j) (by omega) b (by omega)
            show some (shr (nI b) (2 * nI (n - j)) &&& 3, σ) = _
            rw [this]; rfl
  | succ m ih =>
    intro f row b g σ hr hf hg hb hz1 hz2 hM hK
    obtain ⟨f, rfl⟩ : ∃ f', f = f' + 1 := ⟨f - 1, by omega⟩
    have hg2 : gn0 A n row ≤ 41 := gnR_le _ _ _ _ _ _
    obtain ⟨σ1, e, m1, k1, q1⟩ := gnM_run hW hn (row := row) (by omega) n fuelN (aC A) (aR A) 0 σ hn5 (by unfold fuelN; omega) (by rw [Nat.or_zero, setP_id]; exact hW) (by rw [Nat.or_zero, setP_id]; exact hM) hK
    have e : F_X5_seenBy (nI row) (nI n) σ = some (hv (gn0 A n row), σ1) := e
    by_cases q : gn0 A n row ≤ g
    · obtain ⟨σ2, e2, m2, q2⟩ := ih f (row + 1) b g σ1 (by omega) (by omega) hg (by omega) hz1 hz2 m1 k1
      refine ⟨σ2, ?_, m2, q1.tr q2⟩
      rw [bstR, if_pos q, ← e2, L_X5_most]
      refine cnd_f (by rw [shl_4 n (by omega), hN, cGe_nI (by omega) (by omega)]; exact df (by omega)) (bd e ?_)
      dsimp only
      rw [hv_cmp _ (by omega) _ (by omega), nI_1, dt q, cond_true, cond_true]
    · obtain ⟨σ2, e2, m2, q2⟩ := ih f (row + 1) (row + 1) (gn0 A n row) σ1 (by omega) (by omega) hg2 (Nat.le_refl _) (fun z => by omega) (fun z hz => by rw [show row = z from by omega]) m1 k1
      refine ⟨σ2, ?_, m2, q1.tr q2⟩
      rw [bstR, if_neg q, ← e2, L_X5_most]
      refine cnd_f (by rw [shl_4 n (by omega), hN, cGe_nI (by omega) (by omega)]; exact df (by omega)) (bd e ?_)
      dsimp only
      rw [hv_cmp _ (by omega) _ (by omega), nI_1, df q, cond_false, cond_false]; rfl
/-- k is one of -1 .. b -/
def inM (p : Int32) (b : Nat) : Bool := !decide (p < -1) && !decide (nI b < p)
theorem e_withinM (p : Int32) (b : Nat) (σ : PS) : F_X4_within p (-1) (nI b) σ = some (bI (inM p b), σ) := by
  unfold F_X4_within inM cLt cGt
  cases decide (p < -1) <;> cases decide (nI b < p) <;> rfl
theorem e_inM (p : Int32) {b : Nat} (hb : b < 2147483648) (σ : PS) : F_X5_in p.toInt64 (-1) (lN b) σ = some (bI (inM p b), σ) := by
  rw [e_in]
  unfold inM
  have e1 : decide (p.toInt64 < -1) = decide (p < -1) := by
    rw [decide_eq_decide, Int64.lt_iff_toInt_lt, Int32.lt_iff_toInt_lt, Int32.toInt_toInt64, show (-1 : Int64).toInt = -1 from by decide, show (-1 : Int32).toInt = -1 from by decide]
  have e2 : decide (lN b < p.toInt64) = decide (nI b < p) := by
    rw [decide_eq_decide, Int64.lt_iff_toInt_lt, Int32.lt_iff_toInt_lt, Int32.toInt_toInt64, lN_toInt hb, nI_toInt hb]
  rw [e1, e2]
theorem inM_ex {p : Int32} {b : Nat} (hb : b < 2147483648) (h : inM p b = true) : p = -1 ∨ ∃ j, j ≤ b ∧ p = nI j := by
  unfold inM at h
  rw [Bool.and_eq_true, Bool.not_eq_true', Bool.not_eq_true'] at h
  have h1 := of_decide_eq_false h.1
  have h2 := of_decide_eq_false h.2
  rcases p_cases p with q | ⟨j, hj, rfl⟩
  · left
    rw [Int32.lt_iff_toInt_lt] at q h1
    rw [show (-1 : Int32).toInt = -1 from by decide] at h1
    rw [show (0 : Int32).toInt = 0 from by decide] at q
    apply Int32.toInt_inj.mp
    rw [show (-1 : Int32).toInt = -1 from by decide]
    omega
  · right
    rw [Int32.lt_iff_toInt_lt, nI_toInt hj, nI_toInt hb] at h2
    exact ⟨j, by omega, rfl⟩
theorem pr_most (σ : PS) (h : Rel σ) (p0 p1 : Int32) : Pair (F_X4_most p0 p1) (F_X5_most p0 p1) σ := pair_of h fun A hW => by
  have hb := wf_b hW
  cases h1 : inR p0 1 5 with
  | false =>
    refine ⟨-2, A, hW, ansC_q fun σ hC => ?_, ansM_q fun σ hM => ?_⟩
    · unfold F_X4_most
      exact bd (e_within p0 1 5 σ) (cnd_t (ef h1) rfl)
    · unfold F_X5_most
      exact bd (e_inR p0 1 5 (by decide) (by decide) σ) (cnd_t (ef h1) rfl)
  | true =>
  obtain ⟨n, hn1, hn5, rfl⟩ := inR_ex1 h1 (by decide)
  cases h2 : inM p1 4 with
  | false =>
    refine ⟨-2, A, hW, ansC_q fun σ hC => ?_, ansM_q fun σ hM => ?_⟩
    · unfold F_X4_most
      exact bd (e_within _ 1 5 σ) (cnd_f (et h1) (bd (e_withinM p1 4 σ) (cnd_f (nf h2) rfl)))
    · unfold F_X5_most
      exact bd (e_inR _ 1 5 (by decide) (by decide) σ) (cnd_f (et h1) (bd (e_inM p1 (b := 4) (by decide) σ) (cnd_f (nf h2) rfl)))
  | true =>
  by_cases hn : aW A = 0
  · have hK : aK A = 0 := (wf_K hW).mpr hn
    refine ⟨-3, A, hW, ansC_q fun σ hC => ?_, ansM_q fun σ hM => ?_⟩
    · unfold F_X4_most
      exact bd (e_within _ 1 5 σ) (cnd_f (et h1) (bd (e_withinM p1 4 σ) (cnd_t (nt h2) (bd (e_exists hW hC) (cnd_f (nf (show (!decide (aW A = 0)) = false by rw [dt hn]; rfl)) rfl)))))
    · unfold F_X5_most
      refine bd (e_inR _ 1 5 (by decide) (by decide) σ) (cnd_f (et h1) (bd (e_inM p1 (b := 4) (by decide) σ) (cnd_t (nt h2) (cnd_f ?_ rfl))))
      dsimp only
      rw [hM.1.2.2.1, hK]; rfl
  have hK : aK A ≠ 0 := fun q => hn ((wf_K hW).mp q)
  have hw := wf_n hW hn
  have hkk : cLt p1 0 = true ∨ ∃ j, j ≤ 4 ∧ p1 = nI j := by
    rcases inM_ex (by decide) h2 with rfl | q
    · left; decide
    · right; exact q
  obtain ⟨o1, o2, o3⟩ := bst_ok A n (4 ^ n) 0 0 0 (Nat.le_refl _) (fun _ => rfl) (fun z hz => by omega)
  have hN2 : 4 ^ n ≤ 1024 := Nat.pow_le_pow_right (n := 4) (by decide) hn5
  refine ⟨mstA n p1 (bstR A n (4 ^ n) 0 0 0), A, hW, ansC_q fun σ hC => ?_, ansM_mk fun σ hM => ?_⟩
  · unfold F_X4_most
    refine bd (e_within _ 1 5 σ) (cnd_f (et h1) (bd (e_withinM p1 4 σ) (cnd_t (nt h2) (bd (e_exists hW hC) (cnd_t (nt (show (!decide (aW A = 0)) = true by rw [df hn]; rfl)) ?_)))))
    have eb := bsC_run hW hn hC hn5 rfl (4 ^ n) fuelN 0 0 0 (by omega) (by unfold fuelN; omega) (by decide)
    rw [nI_0] at eb
    have eo : F_X1_ofMost (nI n) p1 σ = some (mstA n p1 (bstR A n (4 ^ n) 0 0 0), σ) := by
      unfold F_X1_ofMost
      refine bd (r := F_X1_bestRow _ _) eb ?_
      unfold mstA
      generalize bstR A n (4 ^ n) 0 0 0 = Q at o1 o2 o3
      obtain ⟨b, g⟩ := Q
      dsimp only at o1 o2 o3 ⊢
      by_cases h0 : b = 0
      · rw [o2 h0, h0, if_pos rfl]
        refine cnd_t (by decide) ?_
        cases cLt p1 0 <;> rfl
      · obtain ⟨b, rfl⟩ : ∃ b', b = b' + 1 := ⟨b - 1, by omega⟩
        have hgb := o3 b rfl
        rw [if_neg h0]
        refine cnd_f (show cEq (nI b) (-9) = false from ?_) ?_
        · have := ne_m9 (n := b) (by omega)
          unfold cNe at this
          unfold cEq
          cases hd : decide (nI b = -9) with
          | false => rfl
          | true => rw [hd] at this; cases this
        · rcases hkk with hneg | ⟨j, hj, rfl⟩
          · rw [hneg, cond_true]
            have hlt : cLt p1 (nI n) = true := by
              unfold cLt at hneg ⊢
              have := of_decide_eq_true hneg
              apply dt
              rw [Int32.lt_iff_toInt_lt] at this ⊢
              rw [nI_toInt (by omega)]
              rw [show (0 : Int32).toInt = 0 from by decide] at this
              omega
            refine cnd_t hlt (cnd_f ?_ (bd (a := hv g) (σ := σ) ?_ rfl))
            · unfold cGe
              apply df
              unfold cLt at hneg
              have := of_decide_eq_true hneg
              rw [Int32.lt_iff_toInt_lt] at this
              rw [Int32.le_iff_toInt_le]
              omega
            · unfold F_X1_gainOf
              rw [hC.1.2.2.2.2.1]
              have e := gnC_run hW hn hC (row := b) (by omega) hn5 n fuelN 0 (aC A) (aR A) 0 (by omega) (by unfold fuelN; omega) hw.2.2.2.2.2.2.1 hw.2.2.2.2.2.2.2.1 (Nat.two_pow_pos _)
              rw [nI_0] at e
              rw [hgb]
              exact e
          · rw [cLt_pos (by omega), cond_false, cGe_nI (by omega) (by omega), cLt_nI (by omega) (by omega)]
            by_cases hjn : j < n
            · rw [dt hjn, df (by omega)]
              refine cnd_t rfl (cnd_t (cGe_p (by omega)) (bd (a := nI (dg b (n - 1 - j))) (σ := σ) ?_ ?_))
              · unfold F_X1_stepOfRow
                obtain ⟨n, rfl⟩ : ∃ n', n = n' + 1 := ⟨n - 1, by omega⟩
                show some (shr (nI b) (2 * ((nI (n + 1) - 1) - nI j)) &&& 3, σ) = _
                rw [nI_pred, pk_sub (by omega), dg_sh _ (by omega) b (by omega)]; rfl
              · rw [tn (by omega)]; rfl
            · rw [df hjn, dt (by omega)]; rfl
    exact bd eo rfl
  · obtain ⟨σ1, f1, m1, k1, q1⟩ := e_keep hM
    obtain ⟨σ2, e2, m2, q2⟩ := bsM_run hW hn hn1 hn5 rfl hkk (4 ^ n) fuelN 0 0 0 σ1 (by omega) (by unfold fuelN; omega) (by decide) (Nat.le_refl _) (fun _ => rfl) (fun z hz => by omega) m1 k1
    refine ⟨σ2, ?_, m2, q1.tr q2⟩
    unfold F_X5_most
    refine bd (e_inR _ 1 5 (by decide) (by decide) σ) (cnd_f (et h1) (bd (e_inM p1 (b := 4) (by decide) σ) (cnd_t (nt h2) (cnd_t ?_ (bd f1 ?_)))))
    · dsimp only
      rw [hM.1.2.2.1]
      exact (cNe_nI (b := 0) (by omega) (by decide)).trans (by rw [df hK]; rfl)
    · rw [nI_0] at e2
      exact e2
