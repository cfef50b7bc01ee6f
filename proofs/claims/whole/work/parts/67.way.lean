/-! way: the rounds, the steps, the pair -/
def nbv (A : AS) (σ : PS) (c r s : Nat) : Int32 := bif okS (aW A) (aT A) (aK A) s c r then gA σ 26 (aW A * stR s r + stC s c) else -9
theorem e_far {A : AS} {σ : PS} (hW : WF A) (hn : aW A ≠ 0) (hM : RM A σ) {c r s : Nat} (hs : s < 4) (hc : c + aK A ≤ aW A) (hr : r < aT A) : F_X5_farAt (nI c + dC s) (nI r + dR s) σ = some (nbv A σ c r s, σ) := by
  have hb := wf_b hW
  have hw := wf_n hW hn
  unfold F_X5_farAt nbv
  refine bd (e_isPlaceM hW hn hM _ _) ?_
  rw [d_ok (by omega) (by omega) hs hc hr]
  cases ho : okS (aW A) (aT A) (aK A) s c r with
  | false => exact cnd_t (ef rfl) rfl
  | true =>
    obtain ⟨k1, k2⟩ := okS_in ho hc hr
    obtain ⟨q1, q2⟩ := d_C (W := aW A) (T := aT A) (K := aK A) hs ho
    have hl := cell_lt (W := aW A) (c := stC s c) (r := stR s r) (T := aT A) (by omega) k2
    refine cnd_f (et rfl) ?_
    dsimp only
    rw [q1, q2, hM.1.1, pk_mul, nI_add, tn (by omega)]
    exact cnd_t (vin_of_lt (by omega) (by decide)) rfl
theorem e_far0 {A : AS} {σ : PS} (hW : WF A) (hn : aW A ≠ 0) (hM : RM A σ) {c r : Nat} (hc : c + aK A ≤ aW A) (hr : r < aT A) : F_X5_farAt (nI c) (nI r) σ = some (gA σ 26 (aW A * r + c), σ) := by
  have hb := wf_b hW
  have hw := wf_n hW hn
  have hl := cell_lt (W := aW A) (c := c) (r := r) (T := aT A) (by omega) hr
  unfold F_X5_farAt
  refine bd (e_isPlaceM hW hn hM _ _) ?_
  rw [vin_of_lt (by omega) (by omega), vin_of_lt hr (by omega)]
  refine cnd_f (et rfl) ?_
  dsimp only
  rw [hM.1.1, pk_mul, nI_add, tn (by omega)]
  exact cnd_t (vin_of_lt (by omega) (by decide)) rfl
def bsR (v : Nat → Int32) (x : Int32) : Nat → Nat → Bool
  | 0, _ => false
  | m + 1, s => decide (v s = x) || bsR v x m (s + 1)
theorem bs_iff (v : Nat → Int32) (x : Int32) : ∀ m s, bsR v x m s = true ↔ ∃ y, s ≤ y ∧ y < s + m ∧ v y = x := by
  intro m
  induction m with
  | zero =>
    intro s
    constructor
    · intro h; cases h
    · rintro ⟨y, h1, h2, -⟩; omega
  | succ m ih =>
    intro s
    show (decide (v s = x) || bsR v x m (s + 1)) = true ↔ _
    rw [Bool.or_eq_true, ih, decide_eq_true_eq]
    constructor
    · rintro (h | ⟨y, h1, h2, h3⟩)
      · exact ⟨s, Nat.le_refl _, by omega, h⟩
      · exact ⟨y, by omega, by omega, h3⟩
    · rintro ⟨y, h1, h2, h3⟩
      by_cases e : y = s
      · left; rw [← e]; exact h3
      · exact Or.inr ⟨y, by omega, by omega, h3⟩
theorem bs_run {A : AS} {σ : PS} (hW : WF A) (hn : aW A ≠ 0) (hM : RM A σ) {c r : Nat} {x : Int32} (hc : c + aK A ≤ aW A) (hr : r < aT A) : ∀ (m f s : Nat) (t : Bool), s + m = 4 → m < f → L_X5_isBeside f (nI c) (nI r) x (bI t) (nI s) σ = some (bI (t || bsR (nbv A σ c r) x m s), σ) := by
  intro m
  induction m with
  | zero =>
    intro f s t hs hf
    obtain ⟨f, rfl⟩ : ∃ f', f = f' + 1 := ⟨f - 1, by omega⟩
    rw [L_X5_isBeside, show bsR (nbv A σ c r) x 0 s = false from rfl, Bool.or_false]
    exact cnd_t ((cGe_nI (b := 4) (by omega) (by decide)).trans (dt (by omega))) (cnd_t (okb_bI t) rfl)
  | succ m ih =>
    intro f s t hs hf
    obtain ⟨f, rfl⟩ : ∃ f', f = f' + 1 := ⟨f - 1, by omega⟩
    rw [L_X5_isBeside, show bsR (nbv A σ c r) x (m + 1) s = (decide (nbv A σ c r s = x) || bsR (nbv A σ c r) x m (s + 1)) from rfl]
    refine cnd_f ((cGe_nI (b := 4) (by omega) (by decide)).trans (df (by omega))) ?_
    cases t with
    | true =>
      refine cnd_t (nt rfl) ?_
      rw [nI_1, Bool.true_or]
      exact (ih f (s + 1) true (by omega) (by omega)).trans (by rw [Bool.true_or])
    | false =>
      refine cnd_f (nf rfl) (bd (e_colBy (by omega) σ) (bd (e_rowBy (by omega) σ) (bd (e_far hW hn hM (by omega) hc hr) ?_)))
      dsimp only
      rw [nI_1, Bool.false_or]
      unfold cNe
      by_cases q : nbv A σ c r s = x
      · rw [dt q, Bool.true_or]
        exact (ih f (s + 1) true (by omega) (by omega)).trans (by rw [Bool.true_or])
      · rw [df q, Bool.false_or]
        exact (ih f (s + 1) false (by omega) (by omega)).trans (by rw [Bool.false_or])
theorem e_isBeside {A : AS} {σ : PS} (hW : WF A) (hn : aW A ≠ 0) (hM : RM A σ) {c r : Nat} {x : Int32} (hc : c + aK A ≤ aW A) (hr : r < aT A) : F_X5_isBeside (nI c) (nI r) x σ = some (bI (bsR (nbv A σ c r) x 4 0), σ) := by
  have e := bs_run hW hn hM (x := x) hc hr 4 fuelN 0 false (by omega) (by unfold fuelN; omega)
  rw [Bool.false_or, nI_0] at e
  exact e
/-- what stands in the row of distances: behind round 0, and in the rounds behind it -/
def P0 (A : AS) (M cr r c : Nat) (σ : PS) : Prop := ∀ c' r', c' + aK A ≤ aW A → r' < aT A → (r' < r ∨ (r' = r ∧ c' < c)) → gA σ 26 (aW A * r' + c') = if M ≠ 0 ∧ Dst M cr c' r' = 0 then nI 0 else -9
def P1 (A : AS) (M cr far r c : Nat) (σ : PS) : Prop := ∀ c' r', c' + aK A ≤ aW A → r' < aT A → gA σ 26 (aW A * r' + c') = if M ≠ 0 ∧ (Dst M cr c' r' < far ∨ (Dst M cr c' r' = far ∧ (r' < r ∨ (r' = r ∧ c' < c)))) then nI (Dst M cr c' r') else -9
theorem nI_m9 {n : Nat} (h : n < 2147483648) : nI n ≠ -9 := by
  intro q
  have := ne_m9 h
  unfold cNe at this
  rw [dt q] at this
  cases this
theorem cell_inj {W c r c2 r2 : Nat} (hc : c < W) (hc2 : c2 < W) (h : W * r + c = W * r2 + c2) : c = c2 ∧ r = r2 := by
  constructor
  · have := congrArg (· % W) h
    rwa [q_mod hc, q_mod hc2] at this
  · have := congrArg (· / W) h
    rwa [q_div hc, q_div hc2] at this
theorem st0_step {A : AS} (hW : WF A) (hn : aW A ≠ 0) {cc cr : Nat} (hcc : cc < aW A) (hcr : cr < aT A) : ∀ r c σ f, r < aT A → c + aK A ≤ aW A → RM A σ → P0 A (mM (aW A) (aK A) (aG A) cc) cr r c σ → ∃ σ', L_X5_measures (f + 1) 21 (nI (aW A * cr + cc)) (nI 0) (nI r) (nI c) σ = L_X5_measures f 21 (nI (aW A * cr + cc)) (nI 0) (nI r) (nI (c + 1)) σ' ∧ P0 A (mM (aW A) (aK A) (aG A) cc) cr r (c + 1) σ' ∧ Fr26 σ σ' := by
  intro r c σ f hr hc hM hP
  have hb := wf_b hW
  have hw := wf_n hW hn
  have hl := cell_lt (W := aW A) (c := c) (r := r) (T := aT A) (by omega) hr
  have e := e_isOver hW hn hM hc hr hcc hcr
  refine ⟨sA σ 26 (aW A * r + c) (if mM (aW A) (aK A) (aG A) cc ≠ 0 ∧ Dst (mM (aW A) (aK A) (aG A) cc) cr c r = 0 then nI 0 else -9), ?_, fun c' r' h1 h2 h3 => ?_, Fr26.sA _ _⟩
  · rw [L_X5_measures]
    refine cnd_f (by decide) (cnd_f (by decide) (cnd_t (by decide) (cnd_f ?_ (cnd_f (by decide) (bd e ?_)))))
    · rw [hM.1.1, hM.1.2.2.1, pk_sub (by omega), cGt_nI (by omega) (by omega)]; exact df (by omega)
    · dsimp only
      rw [hM.1.1, pk_mul, nI_add, tn (by omega), nI_1]
      by_cases q : mM (aW A) (aK A) (aG A) cc ≠ 0 ∧ Dst (mM (aW A) (aK A) (aG A) cc) cr c r = 0
      · rw [if_pos q]
        exact cnd_f (et (dt q)) (cnd_t (vin_of_lt (by omega) (by decide)) rfl)
      · rw [if_neg q]
        exact cnd_t (ef (df q)) (cnd_t (vin_of_lt (by omega) (by decide)) rfl)
  · rw [gA_sA, if_pos rfl]
    by_cases q : aW A * r' + c' = aW A * r + c
    · obtain ⟨q1, q2⟩ := cell_inj (by omega) (by omega) q
      rw [if_pos q, q1, q2]
    · rw [if_neg q]
      refine hP c' r' h1 h2 ?_
      by_cases q2 : r' = r ∧ c' = c
      · exact absurd (by rw [q2.1, q2.2]) q
      · omega
theorem st1_step {A : AS} (hW : WF A) (hn : aW A ≠ 0) {M cr far : Nat} {x1 : Int32} (hM64 : M < 64) (hMW : ∀ t, M.testBit t = true → t + aK A ≤ aW A) (hcr : cr < aT A) (hf1 : 1 ≤ far) (hf36 : far < 36) : ∀ r c σ f, r < aT A → c + aK A ≤ aW A → RM A σ → P1 A M cr far r c σ → ∃ σ', L_X5_measures (f + 1) 21 x1 (nI far) (nI r) (nI c) σ = L_X5_measures f 21 x1 (nI far) (nI r) (nI (c + 1)) σ' ∧ P1 A M cr far r (c + 1) σ' ∧ Fr26 σ σ' := by
  intro r c σ f hr hc hM hP
  have hb := wf_b hW
  have hw := wf_n hW hn
  have hl := cell_lt (W := aW A) (c := c) (r := r) (T := aT A) (by omega) hr
  have hDb : ∀ c' r', M ≠ 0 → c' + aK A ≤ aW A → r' < aT A → Dst M cr c' r' < 1000 := fun c' r' h0 h1 h2 => by
    have := ds_7 M hM64 c' (by omega) h0
    unfold Dst abd
    omega
  have hcell := hP c r hc hr
  have hcond : (M ≠ 0 ∧ (Dst M cr c r < far ∨ (Dst M cr c r = far ∧ (r < r ∨ (r = r ∧ c < c))))) ↔ (M ≠ 0 ∧ Dst M cr c r < far) := by omega
  have hcG : cGt (nI c) (gI σ 1217 - gI σ 1219) = false := by
    rw [hM.1.1, hM.1.2.2.1, pk_sub (by omega), cGt_nI (by omega) (by omega)]; exact df (by omega)
  have hx2 : cNe (nI far) 0 = true := (cNe_nI (b := 0) (by omega) (by decide)).trans (by rw [df (by omega)]; rfl)
  have keep : ∀ σ', (∀ c' r', ¬ (c' = c ∧ r' = r) → c' + aK A ≤ aW A → r' < aT A → gA σ' 26 (aW A * r' + c') = gA σ 26 (aW A * r' + c')) → gA σ' 26 (aW A * r + c) = (if M ≠ 0 ∧ (Dst M cr c r < far ∨ Dst M cr c r = far) then nI (Dst M cr c r) else -9) → P1 A M cr far r (c + 1) σ' := by
    intro σ' h1 h2 c' r' h3 h4
    by_cases q : c' = c ∧ r' = r
    · rw [q.1, q.2, h2]
      by_cases z : M ≠ 0 ∧ (Dst M cr c r < far ∨ Dst M cr c r = far)
      · rw [if_pos z, if_pos (by omega)]
      · rw [if_neg z, if_neg (by omega)]
    · rw [h1 c' r' q h3 h4, hP c' r' h3 h4]
      by_cases z : M ≠ 0 ∧ (Dst M cr c' r' < far ∨ (Dst M cr c' r' = far ∧ (r' < r ∨ (r' = r ∧ c' < c))))
      · rw [if_pos z, if_pos (by omega)]
      · rw [if_neg z, if_neg (by omega)]
  by_cases hdone : M ≠ 0 ∧ Dst M cr c r < far
  · rw [if_pos (hcond.mpr hdone)] at hcell
    refine ⟨σ, ?_, keep σ (fun _ _ _ _ _ => rfl) (by rw [hcell, if_pos (by omega)]), Fr26.rf⟩
    rw [L_X5_measures]
    refine cnd_f (by decide) (cnd_f (by decide) (cnd_t (by decide) (cnd_f hcG (cnd_t hx2 ?_))))
    rw [hM.1.1, pk_mul, nI_add, tn (by omega), hcell, nI_1]
    have := hDb c r hdone.1 hc hr
    exact cnd_t (vin_of_lt (by omega) (by decide)) (cnd_t (cGe_p (by omega)) rfl)
  · rw [if_neg (fun q => hdone (hcond.mp q))] at hcell
    have hbs : bsR (nbv A σ c r) (nI (far - 1)) 4 0 = decide (M ≠ 0 ∧ Dst M cr c r = far) := by
      rw [Bool.eq_iff_iff, bs_iff, decide_eq_true_eq]
      have hval : ∀ s, s < 4 → (nbv A σ c r s = nI (far - 1) ↔ okS (aW A) (aT A) (aK A) s c r = true ∧ M ≠ 0 ∧ Dst M cr (stC s c) (stR s r) = far - 1) := by
        intro s hs
        unfold nbv
        cases ho : okS (aW A) (aT A) (aK A) s c r with
        | false =>
          rw [cond_false]
          constructor
          · intro q; exact absurd q.symm (nI_m9 (by omega))
          · rintro ⟨q, -⟩; cases q
        | true =>
          obtain ⟨k1, k2⟩ := okS_in ho hc hr
          rw [cond_true, hP _ _ k1 k2]
          constructor
          · intro q
            by_cases z : M ≠ 0 ∧ (Dst M cr (stC s c) (stR s r) < far ∨ (Dst M cr (stC s c) (stR s r) = far ∧ (stR s r < r ∨ (stR s r = r ∧ stC s c < c))))
            · rw [if_pos z] at q
              have := hDb _ _ z.1 k1 k2
              exact ⟨rfl, z.1, nI_inj (by omega) (by omega) q⟩
            · rw [if_neg z] at q
              exact absurd q.symm (nI_m9 (by omega))
          · rintro ⟨-, z1, z2⟩
            rw [if_pos ⟨z1, Or.inl (by omega)⟩, z2]
      constructor
      · rintro ⟨s, -, hs, hv⟩
        obtain ⟨ho, z1, z2⟩ := (hval s (by omega)).mp hv
        have := nb_lip (M := M) (cr := cr) (by omega) hw.2.2.2.2.1 hM64 z1 (show s < 4 by omega) hc ho
        exact ⟨z1, by omega⟩
      · rintro ⟨z1, z2⟩
        obtain ⟨a1, a2, a3⟩ := nx_ok (by omega) hw.2.2.2.2.1 hM64 z1 hMW hc hr hcr (by omega)
        exact ⟨nxS M cr c r, Nat.zero_le _, by omega, (hval _ a1).mpr ⟨a2, z1, by omega⟩⟩
    have e := e_isBeside hW hn hM (x := nI (far - 1)) hc hr
    rw [hbs] at e
    have ex : nI far - 1 = nI (far - 1) := by
      obtain ⟨g, rfl⟩ : ∃ g, far = g + 1 := ⟨far - 1, by omega⟩
      rw [nI_pred, Nat.add_sub_cancel]
    by_cases z : M ≠ 0 ∧ Dst M cr c r = far
    · refine ⟨sA σ 26 (aW A * r + c) (nI far), ?_, keep _ (fun c' r' q h1 h2 => ?_) ?_, Fr26.sA _ _⟩
      · rw [L_X5_measures]
        refine cnd_f (by decide) (cnd_f (by decide) (cnd_t (by decide) (cnd_f hcG (cnd_t hx2 ?_))))
        rw [hM.1.1, pk_mul, nI_add, tn (by omega), hcell, nI_1, ex]
        exact cnd_t (vin_of_lt (by omega) (by decide)) (cnd_f (by decide) (bd e (cnd_f (et (dt z)) (cnd_t (vin_of_lt (by omega) (by decide)) rfl))))
      · rw [gA_sA, if_pos rfl, if_neg (fun q2 => q (cell_inj (by omega) (by omega) q2))]
      · rw [gA_sA, if_pos rfl, if_pos rfl, if_pos (by omega), z.2]
    · refine ⟨σ, ?_, keep σ (fun _ _ _ _ _ => rfl) (by rw [hcell, if_neg (by omega)]), Fr26.rf⟩
      rw [L_X5_measures]
      refine cnd_f (by decide) (cnd_f (by decide) (cnd_t (by decide) (cnd_f hcG (cnd_t hx2 ?_))))
      rw [hM.1.1, pk_mul, nI_add, tn (by omega), hcell, nI_1, ex]
      exact cnd_t (vin_of_lt (by omega) (by decide)) (cnd_f (by decide) (bd e (cnd_t (ef (df z)) rfl)))
theorem rounds {A : AS} (hW : WF A) (hn : aW A ≠ 0) {M cr : Nat} {x1 : Int32} (hM64 : M < 64) (hMW : ∀ t, M.testBit t = true → t + aK A ≤ aW A) (hcr : cr < aT A) : ∀ (m f far : Nat) (σ : PS), far + m = 36 → 1 ≤ far → 60 * m + 1 ≤ f → RM A σ → P1 A M cr far 0 0 σ → ∃ σ', L_X5_measures f 2 x1 (nI far) 0 0 σ = some ((), σ') ∧ P1 A M cr 36 0 0 σ' ∧ Fr26 σ σ' := by
  have hb := wf_b hW
  have hw := wf_n hW hn
  intro m
  induction m with
  | zero =>
    intro f far σ h1 h2 hf hM hP
    obtain ⟨f, rfl⟩ : ∃ f', f = f' + 1 := ⟨f - 1, by omega⟩
    refine ⟨σ, ?_, by rw [show 36 = far from by omega]; exact hP, Fr26.rf⟩
    rw [L_X5_measures]
    exact cnd_t (by decide) (cnd_t ((cGe_nI (b := 36) (by omega) (by decide)).trans (dt (by omega))) rfl)
  | succ m ih =>
    intro f far σ h1 h2 hf hM hP
    obtain ⟨f, rfl⟩ : ∃ f', f = f' + 1 := ⟨f - 1, by omega⟩
    obtain ⟨g, σ1, hg, e1, p1, f1⟩ := ms_rows hW hn (st1_step (x1 := x1) hW hn hM64 hMW hcr h2 (by omega)) (fun r σ q c' r' h3 h4 => by
      rw [q c' r' h3 h4]
      by_cases z : M ≠ 0 ∧ (Dst M cr c' r' < far ∨ (Dst M cr c' r' = far ∧ (r' < r ∨ (r' = r ∧ c' < aW A - aK A + 1))))
      · rw [if_pos z, if_pos (by omega)]
      · rw [if_neg z, if_neg (by omega)]) (aT A) f 0 σ (Nat.zero_add _) (by omega) hM hP
    have p2 : P1 A M cr (far + 1) 0 0 σ1 := fun c' r' h3 h4 => by
      rw [p1 c' r' h3 h4]
      by_cases z : M ≠ 0 ∧ Dst M cr c' r' ≤ far
      · rw [if_pos (by omega), if_pos (by omega)]
      · rw [if_neg (by omega), if_neg (by omega)]
    obtain ⟨σ2, e2, p3, f2⟩ := ih g (far + 1) σ1 (by omega) (by omega) (by omega) (RM_fr f1 hM) p2
    refine ⟨σ2, ?_, p3, f1.tr f2⟩
    rw [← e2, ← nI_1, ← e1, nI_0, L_X5_measures]
    exact cnd_t (by decide) (cnd_f ((cGe_nI (b := 36) (by omega) (by decide)).trans (df (by omega))) rfl)
theorem mM_W {W K G cc : Nat} (hW : W ≤ 6) : ∀ t, (mM W K G cc).testBit t = true → t + K ≤ W := by
  intro t ht
  have h6 : t < 6 := by
    rcases Nat.lt_or_ge t 6 with q | q
    · exact q
    · rw [Nat.testBit_lt_two_pow (Nat.lt_of_lt_of_le (mM_lt W K G cc) (Nat.pow_le_pow_right (n := 2) (by decide) q))] at ht
      cases ht
  rw [mM_b W K G cc h6] at ht
  unfold inS at ht
  rw [ble_d, Bool.and_eq_true, Bool.and_eq_true, Bool.and_eq_true, decide_eq_true_eq] at ht
  exact ht.1.1.1
theorem e_meas {A : AS} {σ : PS} (hW : WF A) (hn : aW A ≠ 0) (hM : RM A σ) {cc cr : Nat} (hcc : cc < aW A) (hcr : cr < aT A) : ∃ σ', F_X5_measures (nI (aW A * cr + cc)) σ = some ((), σ') ∧ Fr26 σ σ' ∧ ∀ c r, c + aK A ≤ aW A → r < aT A → gA σ' 26 (aW A * r + c) = if mM (aW A) (aK A) (aG A) cc ≠ 0 then nI (Dst (mM (aW A) (aK A) (aG A) cc) cr c r) else -9 := by
  have hb := wf_b hW
  have hw := wf_n hW hn
  have hM64 := mM_lt (aW A) (aK A) (aG A) cc
  have hMW := mM_W (K := aK A) (G := aG A) (cc := cc) (show aW A ≤ 6 by omega)
  obtain ⟨f0, hf0⟩ : ∃ f0, fuelN = f0 + 1 := ⟨fuelN - 1, by unfold fuelN; omega⟩
  have hfb : 4000 ≤ f0 := by unfold fuelN at hf0; omega
  obtain ⟨g, σ1, hg, e1, p1, f1⟩ := ms_rows hW hn (st0_step hW hn hcc hcr) (fun r σ q c' r' h3 h4 h5 => q c' r' h3 h4 (by omega)) (aT A) f0 0 σ (Nat.zero_add _) (by omega) hM (fun c' r' _ _ h5 => by omega)
  have p2 : P1 A (mM (aW A) (aK A) (aG A) cc) cr 1 0 0 σ1 := fun c' r' h3 h4 => by
    rw [p1 c' r' h3 h4 (by omega)]
    by_cases z : mM (aW A) (aK A) (aG A) cc ≠ 0 ∧ Dst (mM (aW A) (aK A) (aG A) cc) cr c' r' = 0
    · rw [if_pos z, if_pos (by omega), z.2]
    · rw [if_neg z, if_neg (by omega)]
  obtain ⟨σ2, e2, p3, f2⟩ := rounds (x1 := nI (aW A * cr + cc)) hW hn hM64 hMW hcr 35 g 1 σ1 (by omega) (by omega) (by omega) (RM_fr f1 hM) p2
  refine ⟨σ2, ?_, f1.tr f2, fun c r h1 h2 => ?_⟩
  · unfold F_X5_measures
    rw [← e2, hf0, L_X5_measures]
    refine cnd_t (by decide) (cnd_f (by decide) ?_)
    rw [show nI 1 = nI 0 + 1 from by rw [nI_1], ← e1, nI_0]
  · rw [p3 c r h1 h2]
    by_cases z : mM (aW A) (aK A) (aG A) cc = 0
    · rw [if_neg (by omega), if_neg (by omega)]
    · have := ds_7 _ hM64 c (by omega) z
      have : Dst (mM (aW A) (aK A) (aG A) cc) cr c r < 36 := by unfold Dst abd; omega
      rw [if_pos (by omega), if_pos z]
