/-! the pair of run -/
def tgB (d : Nat → Int32) (n L j : Nat) : Bool := decide (∀ x, x < n → j ≤ x → d x = d (x - L))
theorem tg_end {d : Nat → Int32} {n L j : Nat} (h : n ≤ j) : tgB d n L j = true := dt fun x h1 h2 => by omega
theorem tg_succ {d : Nat → Int32} {n L j : Nat} (h : j < n) : tgB d n L j = (decide (d j = d (j - L)) && tgB d n L (j + 1)) := by
  unfold tgB
  by_cases h1 : d j = d (j - L)
  · rw [dt h1, Bool.true_and, decide_eq_decide]
    constructor
    · intro q x hx hj; exact q x hx (by omega)
    · intro q x hx hj
      by_cases e : x = j
      · rw [e]; exact h1
      · exact q x hx (by omega)
  · rw [df h1, Bool.false_and]
    exact df fun q => h1 (q j h (Nat.le_refl _))
theorem told_run {d : Nat → Int32} {n L : Nat} {σ : PS} (hn : n ≤ 60) (hd : ∀ x, x < n → gA σ 18 x = d x) : ∀ (m f j : Nat), j + m = n → L ≤ j → m < f → L_X4_isToldAgain f (nI L) (nI n) (nI j) σ = some (bI (tgB d n L j), σ) := by
  intro m
  induction m with
  | zero =>
    intro f j hj hL hf
    obtain ⟨f, rfl⟩ : ∃ f', f = f' + 1 := ⟨f - 1, by omega⟩
    rw [L_X4_isToldAgain, tg_end (by omega)]
    exact cnd_t (by rw [cGe_nI (by omega) (by omega)]; exact dt (by omega)) rfl
  | succ m ih =>
    intro f j hj hL hf
    obtain ⟨f, rfl⟩ : ∃ f', f = f' + 1 := ⟨f - 1, by omega⟩
    rw [L_X4_isToldAgain, tg_succ (by omega)]
    refine cnd_f (by rw [cGe_nI (by omega) (by omega)]; exact df (by omega)) ?_
    rw [pk_sub hL]
    refine bd (e_numberAt _ σ (by decide)) (bd (e_numberAt _ σ (by decide)) ?_)
    dsimp only
    rw [vin_of_lt (by omega) (by decide), vin_of_lt (by omega) (by decide), tn (by omega), tn (by omega), cond_true, cond_true, hd j (by omega), hd (j - L) (by omega), nI_1]
    unfold cEq
    by_cases h1 : d j = d (j - L)
    · rw [dt h1, Bool.true_and]; exact ih f (j + 1) (by omega) (by omega) (by omega)
    · rw [df h1]; rfl
theorem goes_run {d : Nat → Int32} {n L b : Nat} {σ : PS} (hb : b + n ≤ 240) (hd : ∀ x, x < n → gA σ 32 (b + x) = d x) : ∀ (m f j : Nat) (t : Bool), j + m = n → L ≤ j → m < f → L_X5_goesOn f (nI b) (nI n) (nI L) (bI t) (nI j) σ = some (bI (t && tgB d n L j), σ) := by
  intro m
  induction m with
  | zero =>
    intro f j t hj hL hf
    obtain ⟨f, rfl⟩ : ∃ f', f = f' + 1 := ⟨f - 1, by omega⟩
    rw [L_X5_goesOn, tg_end (by omega), Bool.and_true]
    exact cnd_t (by rw [cGe_nI (by omega) (by omega)]; exact dt (by omega)) (cnd_t (okb_bI t) rfl)
  | succ m ih =>
    intro f j t hj hL hf
    obtain ⟨f, rfl⟩ : ∃ f', f = f' + 1 := ⟨f - 1, by omega⟩
    rw [L_X5_goesOn, tg_succ (by omega)]
    refine cnd_f (by rw [cGe_nI (by omega) (by omega)]; exact df (by omega)) ?_
    cases t with
    | false =>
      refine cnd_t (ef rfl) ?_
      rw [nI_1]
      have := ih f (j + 1) false (by omega) (by omega) (by omega)
      exact this
    | true =>
      refine cnd_f (et rfl) ?_
      rw [nI_add, pk_sub (by omega), vin_of_lt (by omega) (by decide), vin_of_lt (by omega) (by decide), tn (by omega), tn (by omega), cond_true, cond_true, show b + j - L = b + (j - L) from by omega, hd j (by omega), hd (j - L) (by omega), nI_1]
      unfold cNe
      by_cases h1 : d j = d (j - L)
      · rw [dt h1, Bool.true_and, Bool.true_and]
        have := ih f (j + 1) true (by omega) (by omega) (by omega)
        rw [Bool.true_and] at this
        exact this
      · rw [df h1, Bool.false_and, Bool.and_false]
        exact ih f (j + 1) false (by omega) (by omega) (by omega)
def lst (d : Nat → Int32) (n : Nat) : Nat → Nat → Nat
  | 0, L => L
  | m + 1, L => bif tgB d n L L then L else lst d n m (L + 1)
theorem lst_le (d : Nat → Int32) (n : Nat) : ∀ m L, L + m = n → lst d n m L ≤ n ∧ L ≤ lst d n m L := by
  intro m
  induction m with
  | zero => intro L h; show L ≤ n ∧ L ≤ L; omega
  | succ m ih =>
    intro L h
    show (bif tgB d n L L then L else lst d n m (L + 1)) ≤ n ∧ L ≤ (bif tgB d n L L then L else lst d n m (L + 1))
    cases tgB d n L L with
    | true => rw [cond_true]; omega
    | false => rw [cond_false]; have := ih (L + 1) (by omega); omega
theorem least_run {d : Nat → Int32} {n : Nat} {σ : PS} (hn : n ≤ 60) (hd : ∀ x, x < n → gA σ 18 x = d x) : ∀ (m f L : Nat), L + m = n → m < f → L_X4_leastLengthToldAgain f (nI n) (nI L) σ = some (nI (lst d n m L), σ) := by
  intro m
  induction m with
  | zero =>
    intro f j hj hf
    obtain ⟨f, rfl⟩ : ∃ f', f = f' + 1 := ⟨f - 1, by omega⟩
    rw [L_X4_leastLengthToldAgain, show lst d n 0 j = n from by show j = n; omega]
    exact cnd_t (by rw [cGe_nI (by omega) (by omega)]; exact dt (by omega)) rfl
  | succ m ih =>
    intro f j hj hf
    obtain ⟨f, rfl⟩ : ∃ f', f = f' + 1 := ⟨f - 1, by omega⟩
    rw [L_X4_leastLengthToldAgain]
    refine cnd_f (by rw [cGe_nI (by omega) (by omega)]; exact df (by omega)) ?_
    unfold F_X4_isToldAgain
    refine bd (told_run hn hd (n - j) fuelN j (by omega) (Nat.le_refl _) (by unfold fuelN; omega)) ?_
    rw [show lst d n (m + 1) j = bif tgB d n j j then j else lst d n m (j + 1) from rfl]
    cases tgB d n j j with
    | true => exact cnd_f (et rfl) rfl
    | false =>
      refine cnd_t (ef rfl) ?_
      rw [nI_1]
      exact ih f (j + 1) (by omega) (by omega)
theorem mrun_run {d : Nat → Int32} {k i n : Nat} {σ : PS} {w : Int32} (hb : 60 * k + i + n ≤ 240) (hn : 0 < n) (hd : ∀ x, x < n → gA σ 32 (60 * k + i + x) = d x) : ∀ (m f L : Nat), 1 ≤ L → L + m = n → m < f → L_X5_run f (nI k) (nI i) (nI n) w (nI L) σ = some (bif cNe w 0 then d (n - lst d n m L) else nI (lst d n m L), sI σ 1216 (nI 0)) := by
  have eb : 60 * nI k + nI i = nI (60 * k + i) := by rw [show (60 : Int32) = nI 60 from rfl, pk_mul, nI_add]
  have fin : ∀ (L : Nat), 1 ≤ L → L ≤ n → (bif cNe w 0 then (bif vin (nI (60 * k + i) + nI n - nI L) 240 then (F_X5_refused (gA σ 32 (Int32.toNatClampNeg (nI (60 * k + i) + nI n - nI L))) σ).bind fun q2 => some (q2.1, q2.2) else none) else (F_X5_refused (nI L) σ).bind fun q3 => some (q3.1, q3.2)) = some (bif cNe w 0 then d (n - L) else nI L, sI σ 1216 (nI 0)) := by
    intro L h1 h2
    cases cNe w 0 with
    | false => exact bd rfl rfl
    | true =>
      rw [cond_true, cond_true, nI_add, pk_sub (by omega)]
      refine cnd_t (vin_of_lt (by omega) (by decide)) ?_
      rw [tn (by omega), show 60 * k + i + n - L = 60 * k + i + (n - L) from by omega, hd _ (by omega)]
      exact bd rfl rfl
  intro m
  induction m with
  | zero =>
    intro f L h1 hL hf
    obtain ⟨f, rfl⟩ : ∃ f', f = f' + 1 := ⟨f - 1, by omega⟩
    rw [L_X5_run, eb]
    unfold F_X5_goesOn
    refine bd (goes_run hb hd (n - L) fuelN L true (by omega) (Nat.le_refl _) (by unfold fuelN; omega)) ?_
    rw [tg_end (by omega)]
    exact cnd_t (nt rfl) (fin L h1 (by omega))
  | succ m ih =>
    intro f L h1 hL hf
    obtain ⟨f, rfl⟩ : ∃ f', f = f' + 1 := ⟨f - 1, by omega⟩
    rw [L_X5_run, eb]
    unfold F_X5_goesOn
    refine bd (goes_run hb hd (n - L) fuelN L true (by omega) (Nat.le_refl _) (by unfold fuelN; omega)) ?_
    rw [show lst d n (m + 1) L = bif tgB d n L L then L else lst d n m (L + 1) from rfl, Bool.true_and]
    cases tgB d n L L with
    | true => exact cnd_t (nt rfl) (fin L h1 (by omega))
    | false =>
      refine cnd_f (nf rfl) ?_
      rw [nI_1]
      exact ih f (L + 1) (by omega) (by omega) (by omega)
theorem inR_ex1 {p : Int32} {b : Nat} (h : inR p 1 b = true) (hb : b < 2147483648) : ∃ v, 1 ≤ v ∧ v ≤ b ∧ p = nI v := by
  rcases p_cases p with hp | ⟨j, hj, rfl⟩
  · exfalso
    have q : p < nI 1 := by
      rw [Int32.lt_iff_toInt_lt] at hp ⊢
      rw [show (0 : Int32).toInt = 0 from by decide] at hp
      rw [show (nI 1).toInt = 1 from by decide]
      omega
    unfold inR at h
    rw [dt q] at h
    cases h
  · rw [inR_pos hj (by decide) hb, Bool.and_eq_true] at h
    exact ⟨j, of_decide_eq_true h.1, of_decide_eq_true h.2, rfl⟩
theorem e_lane02 (p : Int32) (σ : PS) : F_X5_in p.toInt64 0 2 σ = some (bI (inR p 0 2), σ) := e_inR p 0 2 (by decide) (by decide) σ
theorem pr_run (σ : PS) (h : Rel σ) (p0 p1 p2 p3 p4 : Int32) : Pair (F_X4_run p0 p1 p2 p3 p4) (F_X5_run p0 p1 p2 p3 p4) σ := pair_of h fun A hW => by
  cases hv : vin p0 4 with
  | false =>
    refine pr_ref (v := -1) hW (fun σ hC => ?_) (fun σ hM => ?_)
    · unfold F_X4_run
      exact bd (e_sheetOf_n _ hv) rfl
    · unfold F_X5_run
      exact bd (e_noSheet p0 σ) (cnd_f (et (by rw [hv]; rfl)) (bd rfl rfl))
  | true =>
  obtain ⟨k, hk, rfl⟩ := vin_ex hv (by decide)
  have hz := hW.2.2.2 k hk
  have en : (!vin (nI k) 4) = false := by rw [hv]; rfl
  cases h1 : inR p1 0 2 with
  | false =>
    refine pr_ref (v := -2) hW (fun σ hC => ?_) (fun σ hM => ?_)
    · unfold F_X4_run
      exact bd (e_sheetOf _ hk) (cnd_t (isSh_k hk) (bd (e_isLane p1 _) (cnd_t (ef h1) rfl)))
    · unfold F_X5_run
      exact bd (e_noSheet _ σ) (cnd_t (ef en) (bd (e_lane02 p1 σ) (cnd_t (ef h1) (bd rfl rfl))))
  | true =>
  obtain ⟨l, hl, rfl⟩ := inR_ex h1 (by decide)
  cases h3 : inR p3 1 40 with
  | false =>
    refine pr_ref (v := -2) hW (fun σ hC => ?_) (fun σ hM => ?_)
    · unfold F_X4_run
      exact bd (e_sheetOf _ hk) (cnd_t (isSh_k hk) (bd (e_isLane _ _) (cnd_f (et h1) (bd (e_within p3 1 40 _) (cnd_t (ef h3) rfl)))))
    · unfold F_X5_run
      exact bd (e_noSheet _ σ) (cnd_t (ef en) (bd (e_lane02 _ σ) (cnd_f (et h1) (bd (e_inR p3 1 40 (by decide) (by decide) σ) (cnd_t (ef h3) (bd rfl rfl))))))
  | true =>
  obtain ⟨n, hn1, hn40, rfl⟩ := inR_ex1 h3 (by decide)
  cases h4 : inR p4 0 1 with
  | false =>
    refine pr_ref (v := -2) hW (fun σ hC => ?_) (fun σ hM => ?_)
    · unfold F_X4_run
      exact bd (e_sheetOf _ hk) (cnd_t (isSh_k hk) (bd (e_isLane _ _) (cnd_f (et h1) (bd (e_within _ 1 40 _) (cnd_f (et h3) (bd (e_within p4 0 1 _) (cnd_f (nf h4) rfl)))))))
    · unfold F_X5_run
      exact bd (e_noSheet _ σ) (cnd_t (ef en) (bd (e_lane02 _ σ) (cnd_f (et h1) (bd (e_inR _ 1 40 (by decide) (by decide) σ) (cnd_f (et h3) (bd (e_inR p4 0 1 (by decide) (by decide) σ) (cnd_f (nf h4) (bd rfl rfl))))))))
  | true =>
  refine pr_src hW hk hl (p := p2) (q := nI n) (fb := fun s5 => (F_X4_leastLengthToldAgain (nI n) s5).bind fun q6 => bif cNe p4 0 then (F_X4_numberAt 18 60 (nI n - q6.1) q6.2).bind fun q7 => some (q7.1, q7.2) else some (q6.1, q6.2)) (gb := fun s10 => L_X5_run fuelN (nI k) p2 (nI n) p4 (1) s10) (fun σ hC => ?_) (fun σ hM => ?_) (fun i n2 e1 e2 hz2 => ?_)
  · unfold F_X4_run
    exact bd (e_sheetOf _ hk) (cnd_t (isSh_k hk) (bd (e_isLane _ _) (cnd_f (et h1) (bd (e_within _ 1 40 _) (cnd_f (et h3) (bd (e_within p4 0 1 _) (cnd_t (nt h4) rfl)))))))
  · unfold F_X5_run
    exact bd (e_noSheet _ σ) (cnd_t (ef en) (bd (e_lane02 _ σ) (cnd_f (et h1) (bd (e_inR _ 1 40 (by decide) (by decide) σ) (cnd_f (et h3) (bd (e_inR p4 0 1 (by decide) (by decide) σ) (cnd_t (nt h4) rfl)))))))
  · have e3 : n2 = n := by
      have := congrArg Int32.toNatClampNeg e2
      rcases Nat.lt_or_ge n2 2147483648 with q | q
      · rw [tn (by omega), tn q] at this; omega
      · omega
    subst e3
    subst e1
    have hl2 := lst_le (aX A k <| i + ·) n2 (n2 - 1) 1 (by omega)
    refine ⟨bif cNe p4 0 then aX A k (i + (n2 - lst (aX A k <| i + ·) n2 (n2 - 1) 1)) else nI (lst (aX A k <| i + ·) n2 (n2 - 1) 1), setS A 8 0, WF_f hW (by decide), fun σ hC hd => ⟨σ, ?_, hC, eqM.rf⟩, fun σ hM => ⟨_, ?_, RM_f 0 hM, eqC_sI (by decide)⟩⟩
    · unfold F_X4_leastLengthToldAgain
      refine bd (least_run (d := (aX A k <| i + ·)) (by omega) hd (n2 - 1) fuelN 1 (by omega) (by unfold fuelN; omega)) ?_
      cases hp : cNe p4 0 with
      | false => rfl
      | true =>
        dsimp only
        rw [cond_true, pk_sub (by omega)]
        refine bd (e_numberAt _ σ (by decide)) ?_
        dsimp only
        rw [vin_of_lt (by omega) (by decide), tn (by omega), cond_true, hd _ (by omega), cond_true]
    · exact mrun_run (d := (aX A k <| i + ·)) (by omega) (by omega) (fun x hx => by rw [Nat.add_assoc]; exact (hM.2.2.2.2.2 k hk).2.2 (i + x) (by omega)) (n2 - 1) fuelN 1 (Nat.le_refl _) (by omega) (by unfold fuelN; omega)
