/-! the pair of odds -/
def odH (A : AS) (k v : Nat) (c r x : Nat) : Nat := if v ≤ tellN (aKd A k) (aSh A k) (aH A (aW A * r + c + k)) then x + 1 else x
theorem odC_run {A : AS} {σ : PS} (hW : WF A) (hn : aW A ≠ 0) (hC : RC A σ) {k v : Nat} (hk : k < aK A) (hv : v ≤ 20) : ∀ (m f q x : Nat), q + m = aW A * aT A → m < f → L_X1_placesWhereTold f (nI k) (nI v) (nI x) (nI q) σ = some (nI (fqG (aW A) (aK A) (odH A k v) m q x), σ) := by
  have hb := wf_b hW
  have hw := wf_n hW hn
  intro m
  induction m with
  | zero =>
    intro f q x hq hf
    obtain ⟨f, rfl⟩ : ∃ f', f = f' + 1 := ⟨f - 1, by omega⟩
    rw [L_X1_placesWhereTold]
    refine bd (e_cells hC) (cnd_t ?_ rfl)
    dsimp only
    rw [cGe_nI (by omega) (by omega)]; exact dt (by omega)
  | succ m ih =>
    intro f q x hq hf
    obtain ⟨f, rfl⟩ : ∃ f', f = f' + 1 := ⟨f - 1, by omega⟩
    have hm : q % aW A < aW A := Nat.mod_lt _ (by omega)
    have hdv : q / aW A < aT A := Nat.div_lt_of_lt_mul (by omega)
    have hqq : aW A * (q / aW A) + q % aW A = q := Nat.div_add_mod q (aW A)
    rw [L_X1_placesWhereTold]
    refine bd (e_cells hC) (cnd_f ?_ (bd (e_isPlaceC hW hn hC (q := q) (by omega)) ?_))
    · dsimp only
      rw [cGe_nI (by omega) (by omega)]; exact df (by omega)
    · show _ = some (nI (fqG (aW A) (aK A) (odH A k v) m (q + 1) (if q % aW A + aK A ≤ aW A then odH A k v (q % aW A) (q / aW A) x else x)), σ)
      by_cases hp : q % aW A + aK A ≤ aW A
      · have hl := cell_lt (W := aW A) (c := q % aW A + k) (r := q / aW A) (T := aT A) (by omega) hdv
        have ht := tell_le (kd := aKd A k) (sh := aSh A k) (hW.2.1.1 (q + k) (by omega))
        rw [if_pos hp]
        unfold odH
        rw [hqq]
        refine cnd_f (et (dt hp)) ?_
        rw [nI_add]
        refine bd (e_toldOf hW hC hk (by omega)) ?_
        dsimp only
        rw [cLt_nI (by omega) (by omega), nI_1, nI_1]
        by_cases h0 : v ≤ tellN (aKd A k) (aSh A k) (aH A (q + k))
        · rw [if_pos h0, df (by omega)]
          exact ih f (q + 1) (x + 1) (by omega) (by omega)
        · rw [if_neg h0, dt (by omega)]
          exact ih f (q + 1) x (by omega) (by omega)
      · rw [if_neg hp]
        refine cnd_t (ef (df hp)) ?_
        rw [nI_1]
        exact ih f (q + 1) x (by omega) (by omega)
theorem odM_in {A : AS} {σ : PS} (hW : WF A) (hn : aW A ≠ 0) (hM : RM A σ) {k v r : Nat} (hk : k < aK A) (hv : v ≤ 20) (hr : r < aT A) (w : Int32) : ∀ (j g c x : Nat), c + j = aW A - aK A + 1 → L_X5_odds (g + j + 1) 52 (nI k) (nI v) w (lN x) (nI r) (nI c) σ = L_X5_odds g 40 (nI k) (nI v) w (lN (fcG (odH A k v) r j c x)) (nI (r + 1)) 0 σ := by
  have hbb := wf_b hW
  have hw := wf_n hW hn
  intro j
  induction j with
  | zero =>
    intro g c x hc
    rw [show g + 0 + 1 = g + 1 from rfl, L_X5_odds]
    refine cnd_f (by decide) (cnd_t (by decide) (cnd_t ?_ ?_))
    · rw [hM.1.1, hM.1.2.2.1, pk_sub (by omega), cGt_nI (by omega) (by omega)]; exact dt (by omega)
    · rw [nI_1]; rfl
  | succ j ih =>
    intro g c x hc
    have hl := cell_lt (W := aW A) (c := c + k) (r := r) (T := aT A) (by omega) hr
    have ht := tell_le (kd := aKd A k) (sh := aSh A k) (hW.2.1.1 (aW A * r + c + k) (by omega))
    rw [show fcG (odH A k v) r (j + 1) c x = fcG (odH A k v) r j (c + 1) (if v ≤ tellN (aKd A k) (aSh A k) (aH A (aW A * r + c + k)) then x + 1 else x) from rfl, show g + (j + 1) + 1 = (g + j + 1) + 1 from rfl, L_X5_odds]
    refine cnd_f (by decide) (cnd_t (by decide) (cnd_f ?_ ?_))
    · rw [hM.1.1, hM.1.2.2.1, pk_sub (by omega), cGt_nI (by omega) (by omega)]; exact df (by omega)
    · rw [hM.1.1, pk_mul, nI_add, nI_add, tn (by omega), hM.2.1.1 _ (by omega)]
      refine cnd_t (vin_of_lt (by omega) (by decide)) (bd (e_tells hW hM hk (hW.2.1.1 _ (by omega))) ?_)
      dsimp only
      rw [cLt_nI (by omega) (by omega), nI_1, show (0 : Int64) = lN 0 from rfl, lN_add, lN_1, Nat.add_zero]
      by_cases h0 : v ≤ tellN (aKd A k) (aSh A k) (aH A (aW A * r + c + k))
      · rw [if_pos h0, df (by omega)]
        exact ih g (c + 1) (x + 1) (by omega)
      · rw [if_neg h0, dt (by omega)]
        exact ih g (c + 1) x (by omega)
theorem odM_run {A : AS} {σ : PS} (hW : WF A) (hn : aW A ≠ 0) (hM : RM A σ) {k v : Nat} (hk : k < aK A) (hv : v ≤ 20) (w : Int32) : ∀ (m f r x : Nat), r + m = aT A → 8 * m + 1 ≤ f → L_X5_odds f 40 (nI k) (nI v) w (lN x) (nI r) 0 σ = (F_X5_share (lN (frG (aW A) (aK A) (odH A k v) m r x)) (lN ((aW A - aK A + 1) * aT A)) w σ).bind fun q => some (q.1, q.2) := by
  have hbb := wf_b hW
  have hw := wf_n hW hn
  intro m
  induction m with
  | zero =>
    intro f r x hr hf
    obtain ⟨f, rfl⟩ : ∃ f', f = f' + 1 := ⟨f - 1, by omega⟩
    rw [L_X5_odds]
    refine cnd_t (by decide) (cnd_t ?_ ?_)
    · rw [hM.1.2.1, cGe_nI (by omega) (by omega)]; exact dt (by omega)
    · rw [hM.1.1, hM.1.2.1, hM.1.2.2.1, pk_sub (by omega), nI_l (by omega), nI_l (by omega), lN_1, lN_mul]; rfl
  | succ m ih =>
    intro f r x hr hf
    obtain ⟨g, rfl⟩ : ∃ g, f = (g + (aW A - aK A + 1) + 1) + 1 := ⟨f - (aW A - aK A + 1) - 2, by omega⟩
    rw [L_X5_odds]
    refine cnd_t (by decide) (cnd_f ?_ ?_)
    · rw [hM.1.2.1, cGe_nI (by omega) (by omega)]; exact df (by omega)
    · have e := odM_in hW hn hM hk hv (r := r) (by omega) w (aW A - aK A + 1) g 0 x (by omega)
      rw [nI_0] at e
      refine e.trans ?_
      exact ih g (r + 1) _ (by omega) (by omega)
def gd (a b : Nat) : Nat → Nat
  | 0 => 0
  | z + 1 => if a % (z + 1) = 0 ∧ b % (z + 1) = 0 then z + 1 else gd a b z
theorem gd_gcd (a b : Nat) (hb : 0 < b) : ∀ z, Nat.gcd a b ≤ z → gd a b z = Nat.gcd a b := by
  have hp : 0 < Nat.gcd a b := Nat.gcd_pos_of_pos_right a hb
  intro z
  induction z with
  | zero => intro h; omega
  | succ z ih =>
    intro h
    show (if a % (z + 1) = 0 ∧ b % (z + 1) = 0 then z + 1 else gd a b z) = _
    by_cases hc : a % (z + 1) = 0 ∧ b % (z + 1) = 0
    · rw [if_pos hc]
      have h1 : z + 1 ∣ Nat.gcd a b := Nat.dvd_gcd (Nat.dvd_of_mod_eq_zero hc.1) (Nat.dvd_of_mod_eq_zero hc.2)
      have := Nat.le_of_dvd hp h1
      omega
    · rw [if_neg hc]
      by_cases e : Nat.gcd a b = z + 1
      · exfalso
        apply hc
        rw [← e]
        exact ⟨Nat.mod_eq_zero_of_dvd (Nat.gcd_dvd_left a b), Nat.mod_eq_zero_of_dvd (Nat.gcd_dvd_right a b)⟩
      · exact ih (by omega)
theorem gd_run {a b : Nat} (ha : a < 2147483648) (hb : b < 2147483648) (σ : PS) : ∀ (z f : Nat), z ≤ b → z < f → L_X4_greatestDivisor f (nI a) (nI b) (nI z) σ = some (nI (gd a b z), σ) := by
  intro z
  induction z with
  | zero =>
    intro f hz hf
    obtain ⟨f, rfl⟩ : ∃ f', f = f' + 1 := ⟨f - 1, by omega⟩
    rw [L_X4_greatestDivisor]
    exact cnd_t (by decide) rfl
  | succ z ih =>
    intro f hz hf
    obtain ⟨f, rfl⟩ : ∃ f', f = f' + 1 := ⟨f - 1, by omega⟩
    have ha2 : a % (z + 1) < z + 1 := Nat.mod_lt _ (by omega)
    have hb2 : b % (z + 1) < z + 1 := Nat.mod_lt _ (by omega)
    have e0 : decide (nI (z + 1) = 0) = false := (cEq_nI (b := 0) (by omega) (by decide)).trans (df (by omega))
    rw [L_X4_greatestDivisor]
    refine cnd_f ((cLe_nI (b := 0) (by omega) (by decide)).trans (df (by omega))) (cnd_f e0 ?_)
    unfold irem
    rw [pk_rem ha (by omega) (by omega), pk_rem hb (by omega) (by omega), nI_m]
    show _ = some (nI (if a % (z + 1) = 0 ∧ b % (z + 1) = 0 then z + 1 else gd a b z), σ)
    by_cases h1 : a % (z + 1) = 0
    · refine cnd_f ((cNe_nI (b := 0) (by omega) (by decide)).trans (by rw [dt h1]; rfl)) (cnd_f e0 ?_)
      by_cases h2 : b % (z + 1) = 0
      · rw [if_pos ⟨h1, h2⟩]
        exact cnd_f ((cNe_nI (b := 0) (by omega) (by decide)).trans (by rw [dt h2]; rfl)) rfl
      · rw [if_neg (fun q => h2 q.2)]
        exact cnd_t ((cNe_nI (b := 0) (by omega) (by decide)).trans (by rw [df h2]; rfl)) (ih f (by omega) (by omega))
    · rw [if_neg (fun q => h1 q.1)]
      exact cnd_t ((cNe_nI (b := 0) (by omega) (by decide)).trans (by rw [df h1]; rfl)) (ih f (by omega) (by omega))
theorem sh_run {a b : Nat} (ha : a < 1000) (hb : b < 1000) (w : Int32) (σ : PS) : ∀ (n x y f : Nat), y ≤ n → n < f → x < 1000 → y < 1000 → 0 < Nat.gcd x y → L_X5_share f (lN a) (lN b) w (lN x) (lN y) σ = some (bif cNe w 0 then lN (b / Nat.gcd x y) else lN (a / Nat.gcd x y), σ) := by
  have eq0 : ∀ y, y < 1000 → decide (lN y = 0) = decide (y = 0) := fun y hy => by rw [decide_eq_decide]; exact lN_eq (b := 0) (by omega) (by decide)
  have ceq0 : ∀ y, y < 1000 → cEq (lg_cmp (lN y) 0) 0 = decide (y = 0) := fun y hy => by
    have := lg_ne0 (lN y) 0
    rw [eq0 y hy] at this
    unfold cNe at this
    unfold cEq
    cases hd : decide (lg_cmp (lN y) 0 = 0) <;> rw [hd] at this <;> cases hq : decide (y = 0) <;> rw [hq] at this <;> first | rfl | cases this
  intro n
  induction n with
  | zero =>
    intro x y f hy hf hx hy2 hg
    obtain rfl : y = 0 := by omega
    obtain ⟨f, rfl⟩ : ∃ f', f = f' + 1 := ⟨f - 1, by omega⟩
    rw [Nat.gcd_zero_right] at hg ⊢
    rw [L_X5_share]
    refine cnd_t ((ceq0 0 (by decide)).trans rfl) ?_
    rw [eq0 x hx, df (by omega), pk_lDiv (by omega) hg (by omega), pk_lDiv (by omega) hg (by omega)]
    cases cNe w 0 <;> rfl
  | succ n ih =>
    intro x y f hy hf hx hy2 hg
    obtain ⟨f, rfl⟩ : ∃ f', f = f' + 1 := ⟨f - 1, by omega⟩
    rw [L_X5_share]
    by_cases h0 : y = 0
    · subst h0
      rw [Nat.gcd_zero_right] at hg ⊢
      refine cnd_t ((ceq0 0 (by decide)).trans rfl) ?_
      rw [eq0 x hx, df (by omega), pk_lDiv (by omega) hg (by omega), pk_lDiv (by omega) hg (by omega)]
      cases cNe w 0 <;> rfl
    · have hm : x % y < y := Nat.mod_lt _ (by omega)
      have hgg : Nat.gcd y (x % y) = Nat.gcd x y := by rw [Nat.gcd_comm x y, Nat.gcd_rec y x, Nat.gcd_comm]
      refine cnd_f ((ceq0 y hy2).trans (df h0)) (cnd_f ((eq0 y hy2).trans (df h0)) ?_)
      unfold lrem
      rw [pk_lRem (by omega) (by omega) (by omega), ← hgg]
      exact ih y (x % y) f (by omega) (by omega) hy2 (by omega) (by rw [hgg]; exact hg)
theorem od_le (A : AS) (k v : Nat) : ∀ m q x, fqG (aW A) (aK A) (odH A k v) m q x ≤ x + m := by
  intro m
  induction m with
  | zero => intro q x; exact Nat.le_refl _
  | succ m ih =>
    intro q x
    have h1 : (if q % aW A + aK A ≤ aW A then odH A k v (q % aW A) (q / aW A) x else x) ≤ x + 1 := by
      split
      · unfold odH; split <;> omega
      · omega
    have := ih (q + 1) (if q % aW A + aK A ≤ aW A then odH A k v (q % aW A) (q / aW A) x else x)
    show fqG (aW A) (aK A) (odH A k v) m (q + 1) (if q % aW A + aK A ≤ aW A then odH A k v (q % aW A) (q / aW A) x else x) ≤ _
    omega
theorem pr_odds (σ : PS) (h : Rel σ) (p0 p1 p2 : Int32) : Pair (F_X4_odds p0 p1 p2) (F_X5_odds p0 p1 p2) σ := pair_of h fun A hW => by
  have hb := wf_b hW
  cases hv0 : vin p0 (aK A) with
  | false =>
    refine ⟨-9223372036854775808, A, hW, ansC_q fun σ hC => ?_, ansM_q fun σ hM => ?_⟩
    · unfold F_X4_odds
      exact bd (e_isLooker hW hC p0) (cnd_f (nf hv0) rfl)
    · unfold F_X5_odds
      exact bd (e_noLooker hW hM p0) (cnd_t (nt (by rw [hv0]; rfl)) (bd (e_lost σ) rfl))
  | true =>
  obtain ⟨k, hk, rfl⟩ := vin_ex hv0 (by omega)
  have en : (!vin (nI k) (aK A)) = false := by rw [hv0]; rfl
  cases h1 : inR p1 0 20 with
  | false =>
    refine ⟨-9223372036854775808, A, hW, ansC_q fun σ hC => ?_, ansM_q fun σ hM => ?_⟩
    · unfold F_X4_odds
      exact bd (e_isLooker hW hC _) (cnd_t (nt hv0) (bd (e_within p1 0 20 σ) (cnd_t (ef h1) rfl)))
    · unfold F_X5_odds
      exact bd (e_noLooker hW hM _) (cnd_f (nf en) (bd (e_inR p1 0 20 (by decide) (by decide) σ) (cnd_t (ef h1) (bd (e_lost σ) rfl))))
  | true =>
  obtain ⟨v, hv, rfl⟩ := inR_ex h1 (by decide)
  cases h2 : inR p2 0 1 with
  | false =>
    refine ⟨-9223372036854775808, A, hW, ansC_q fun σ hC => ?_, ansM_q fun σ hM => ?_⟩
    · unfold F_X4_odds
      exact bd (e_isLooker hW hC _) (cnd_t (nt hv0) (bd (e_within _ 0 20 σ) (cnd_f (et h1) (bd (e_within p2 0 1 σ) (cnd_f (nf h2) rfl)))))
    · unfold F_X5_odds
      exact bd (e_noLooker hW hM _) (cnd_f (nf en) (bd (e_inR _ 0 20 (by decide) (by decide) σ) (cnd_f (et h1) (bd (e_inR p2 0 1 (by decide) (by decide) σ) (cnd_f (nf h2) (bd (e_lost σ) rfl))))))
  | true =>
  have hn : aW A ≠ 0 := fun q => by have := (wf_K hW).mpr q; omega
  have hw := wf_n hW hn
  have hfold := fq_fr (aW A) (aK A) hw.2.2.2.2.1 (by omega) (odH A k v) (aT A) 0 0
  rw [Nat.mul_zero] at hfold
  have hup := od_le A k v (aW A * aT A) 0 0
  have hdn : (aW A - aK A + 1) * aT A ≤ 36 := Nat.le_trans (Nat.mul_le_mul_right _ (by omega)) hb.2.2.2.1
  have hdp : 0 < (aW A - aK A + 1) * aT A := Nat.mul_pos (by omega) (by omega)
  rw [hfold] at hup
  have hfold2 := hfold
  refine ⟨bif cNe p2 0 then lN ((aW A - aK A + 1) * aT A / Nat.gcd (frG (aW A) (aK A) (odH A k v) (aT A) 0 0) ((aW A - aK A + 1) * aT A)) else lN (frG (aW A) (aK A) (odH A k v) (aT A) 0 0 / Nat.gcd (frG (aW A) (aK A) (odH A k v) (aT A) 0 0) ((aW A - aK A + 1) * aT A)), A, hW, ansC_q fun σ hC => ?_, ansM_q fun σ hM => ?_⟩
  · unfold F_X4_odds
    have e := odC_run hW hn hC hk hv (aW A * aT A) fuelN 0 0 (Nat.zero_add _) (by unfold fuelN; omega)
    rw [hfold2, nI_0] at e
    generalize frG (aW A) (aK A) (odH A k v) (aT A) 0 0 = U at hup e ⊢
    refine bd (e_isLooker hW hC _) (cnd_t (nt hv0) (bd (e_within _ 0 20 σ) (cnd_f (et h1) (bd (e_within p2 0 1 σ) (cnd_t (nt h2) (bd (r := F_X1_placesWhereTold _ _ _) e ?_))))))
    have ep : F_X1_places σ = some (nI ((aW A - aK A + 1) * aT A), σ) := by
      unfold F_X1_places
      rw [hC.1.1, hC.1.2.1, hC.1.2.2.1, pk_sub (by omega), nI_1, pk_mul]
    generalize (aW A - aK A + 1) * aT A = D at hdn hdp ep ⊢
    have hg0 : 0 < Nat.gcd U D := Nat.gcd_pos_of_pos_right U hdp
    have hgD : Nat.gcd U D ≤ D := Nat.le_of_dvd hdp (Nat.gcd_dvd_right U D)
    have eg : F_X4_greatestDivisor (nI U) (nI D) σ = some (nI (Nat.gcd U D), σ) := by
      unfold F_X4_greatestDivisor
      rw [gd_run (by omega) (by omega) σ D fuelN (Nat.le_refl _) (by unfold fuelN; omega), gd_gcd U D hdp D hgD]
    have e0 : decide (nI (Nat.gcd U D) = 0) = false := (cEq_nI (b := 0) (by omega) (by decide)).trans (df (by omega))
    have hq1 : D / Nat.gcd U D ≤ D := Nat.div_le_self _ _
    have hq2 : U / Nat.gcd U D ≤ U := Nat.div_le_self _ _
    refine bd ep (bd eg (cnd_t ((cNe_nI (b := 0) (by omega) (by decide)).trans (by rw [df (by omega)]; rfl)) ?_))
    dsimp only
    rw [e0, pk_div (by omega) hg0 (by omega), pk_div (by omega) hg0 (by omega), nI_l (by omega), nI_l (by omega)]
    cases cNe p2 0 <;> rfl
  · unfold F_X5_odds
    have e := odM_run hW hn hM hk hv p2 (aT A) fuelN 0 0 (Nat.zero_add _) (by unfold fuelN; omega)
    rw [nI_0] at e
    refine bd (e_noLooker hW hM _) (cnd_f (nf en) (bd (e_inR _ 0 20 (by decide) (by decide) σ) (cnd_f (et h1) (bd (e_inR p2 0 1 (by decide) (by decide) σ) (cnd_t (nt h2) (e.trans ?_))))))
    have hg0 : 0 < Nat.gcd (frG (aW A) (aK A) (odH A k v) (aT A) 0 0) ((aW A - aK A + 1) * aT A) := Nat.gcd_pos_of_pos_right _ hdp
    have es := sh_run (a := frG (aW A) (aK A) (odH A k v) (aT A) 0 0) (b := (aW A - aK A + 1) * aT A) (by omega) (by omega) p2 σ 1000 (frG (aW A) (aK A) (odH A k v) (aT A) 0 0) ((aW A - aK A + 1) * aT A) fuelN (by omega) (by unfold fuelN; omega) (by omega) (by omega) hg0
    exact bd (r := F_X5_share _ _ _ _) es rfl
