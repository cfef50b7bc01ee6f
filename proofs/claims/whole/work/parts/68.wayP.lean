/-! way: the steps, the pair -/
def finS (b : Nat → Bool) : Nat → Int32 → Int32
  | 0, I => I
  | s + 1, I => finS b s (bif b s then nI s else I)
theorem fin_nx (b : Nat → Bool) {n : Nat} (hn : n < 4) (hb : b n = true) (hl : ∀ s, s < n → b s = false) (I : Int32) : finS b 4 I = nI n := by
  have h4 : n = 0 ∨ n = 1 ∨ n = 2 ∨ n = 3 := by omega
  show (bif b 0 then nI 0 else bif b 1 then nI 1 else bif b 2 then nI 2 else bif b 3 then nI 3 else I) = nI n
  rcases h4 with rfl | rfl | rfl | rfl
  · rw [hb]; rfl
  · rw [hl 0 (by decide), hb]; rfl
  · rw [hl 0 (by decide), hl 1 (by decide), hb]; rfl
  · rw [hl 0 (by decide), hl 1 (by decide), hl 2 (by decide), hb]; rfl
theorem ws_in {A : AS} {σ : PS} (hW : WF A) (hn : aW A ≠ 0) (hM : RM A σ) {c r n : Nat} {x6 : Int32} (x1 x5 : Int32) (hc : c + aK A ≤ aW A) (hr : r < aT A) (hn4 : n < 4) : ∀ (s g : Nat) (I : Int32), s ≤ 4 → finS (fun y => decide (nbv A σ c r y = x6 - 1)) s I = nI n → L_X5_wayStep (g + s + 1) 38 x1 (nI c) (nI r) I x5 x6 (nI s - 1) σ = L_X5_wayStep g 17 x1 (nI c + dC n) (nI r + dR n) (nI n) (x5 + 1) 0 0 σ := by
  intro s
  induction s with
  | zero =>
    intro g I hs hI
    have hI : I = nI n := hI
    subst hI
    rw [show g + 0 + 1 = g + 1 from rfl, L_X5_wayStep]
    exact cnd_f (by decide) (cnd_t (by decide) (cnd_t (by decide) (bd (e_colBy hn4 σ) (bd (e_rowBy hn4 σ) rfl))))
  | succ s ih =>
    intro g I hs hI
    have hI : finS (fun y => decide (nbv A σ c r y = x6 - 1)) s (bif decide (nbv A σ c r s = x6 - 1) then nI s else I) = nI n := hI
    have := ih g _ (by omega) hI
    rw [← this, show g + (s + 1) + 1 = (g + s + 1) + 1 from rfl, L_X5_wayStep, nI_pred]
    refine cnd_f (by decide) (cnd_t (by decide) (cnd_f (cLt_pos (by omega)) (bd (e_colBy (by omega) σ) (bd (e_rowBy (by omega) σ) (bd (e_far hW hn hM (by omega) hc hr) ?_)))))
    dsimp only
    rw [← Int32.sub_eq_add_neg]
    unfold cNe
    cases decide (nbv A σ c r s = x6 - 1) <;> rfl
theorem ans_0 {M cr c r : Nat} (hM : M < 64) (hc : c < 6) (h0 : M ≠ 0) (hd : 0 < Dst M cr c r) : ansN (r - cr) (tgS M c - c) (cr - r) (c - tgS M c) 0 = nI (nxS M cr c r) := by
  have t1 := (ds_1 M hM c hc h0).1
  unfold Dst at hd
  unfold abd at t1 hd
  unfold ansN nxS
  by_cases h1 : cr < r
  · rw [if_pos (by omega), if_pos h1]; rfl
  · rw [if_neg (by omega), if_neg h1]
    by_cases h2 : c < tgS M c
    · rw [if_pos (by omega), if_pos h2]; rfl
    · rw [if_neg (by omega), if_neg h2]
      by_cases h3 : r < cr
      · rw [if_pos (by omega), if_pos h3]; rfl
      · rw [if_neg (by omega), if_neg h3, if_pos (by omega)]; rfl
theorem ans_s {M cr c r k : Nat} (hM : M < 64) (hc : c < 6) (h0 : M ≠ 0) (hd : 0 < Dst M cr c r) : ansN (r - cr) (tgS M c - c) (cr - r) (c - tgS M c) (k + 1) = ansN (stR (nxS M cr c r) r - cr) (tgS M (stC (nxS M cr c r) c) - stC (nxS M cr c r) c) (cr - stR (nxS M cr c r) r) (stC (nxS M cr c r) c - tgS M (stC (nxS M cr c r) c)) k := by
  have t1 := (ds_1 M hM c hc h0).1
  have t2 := tg_le hM hc h0
  unfold Dst at hd
  unfold abd at t1 hd
  unfold nxS
  have e : ∀ u R d L u2 R2 d2 L2 : Nat, u + R + d + L = u2 + R2 + d2 + L2 + 1 → (k + 1 < u ↔ k < u2) → (k + 1 < u + R ↔ k < u2 + R2) → (k + 1 < u + R + d ↔ k < u2 + R2 + d2) → ansN u R d L (k + 1) = ansN u2 R2 d2 L2 k := by
    intro u R d L u2 R2 d2 L2 a1 a2 a3 a4
    unfold ansN
    by_cases h1 : k < u2
    · rw [if_pos h1, if_pos (a2.mpr h1)]
    · rw [if_neg h1, if_neg (fun q => h1 (a2.mp q))]
      by_cases h2 : k < u2 + R2
      · rw [if_pos h2, if_pos (a3.mpr h2)]
      · rw [if_neg h2, if_neg (fun q => h2 (a3.mp q))]
        by_cases h3 : k < u2 + R2 + d2
        · rw [if_pos h3, if_pos (a4.mpr h3)]
        · rw [if_neg h3, if_neg (fun q => h3 (a4.mp q))]
          by_cases h4 : k < u2 + R2 + d2 + L2
          · rw [if_pos h4, if_pos (by omega)]
          · rw [if_neg h4, if_neg (by omega)]
  by_cases h1 : cr < r
  · rw [if_pos h1, (st_0 c r).1, (st_0 c r).2]
    exact e _ _ _ _ _ _ _ _ (by omega) (by omega) (by omega) (by omega)
  · rw [if_neg h1]
    by_cases h2 : c < tgS M c
    · have := ds_3 M hM c (by omega) h0 h2
      rw [if_pos h2, (st_1 c r).1, (st_1 c r).2, this.2]
      exact e _ _ _ _ _ _ _ _ (by omega) (by omega) (by omega) (by omega)
    · rw [if_neg h2]
      by_cases h3 : r < cr
      · rw [if_pos h3, (st_2 c r).1, (st_2 c r).2]
        exact e _ _ _ _ _ _ _ _ (by omega) (by omega) (by omega) (by omega)
      · rw [if_neg h3]
        obtain ⟨c, rfl⟩ : ∃ c', c = c' + 1 := ⟨c - 1, by omega⟩
        have := ds_4 M hM c (by omega) h0 (by omega)
        rw [(st_3 (c + 1) r).1, (st_3 (c + 1) r).2, Nat.add_sub_cancel, this.2]
        exact e _ _ _ _ _ _ _ _ (by omega) (by omega) (by omega) (by omega)
theorem ws_run {A : AS} {σ : PS} (hW : WF A) (hn : aW A ≠ 0) (hM : RM A σ) {M cr k : Nat} (hM64 : M < 64) (h0 : M ≠ 0) (hMW : ∀ t, M.testBit t = true → t + aK A ≤ aW A) (hcr : cr < aT A) (hk : k < 100) (hd : ∀ c r, c + aK A ≤ aW A → r < aT A → gA σ 26 (aW A * r + c) = nI (Dst M cr c r)) : ∀ (m f x c r : Nat) (I a b : Int32), x + m = k + 1 → 6 * m + 1 ≤ f → m ≤ Dst M cr c r → c + aK A ≤ aW A → r < aT A → L_X5_wayStep f 17 (nI k) (nI c) (nI r) I (nI x) a b σ = some (if m = 0 then I else ansN (r - cr) (tgS M c - c) (cr - r) (c - tgS M c) (m - 1), σ) := by
  have hb := wf_b hW
  have hw := wf_n hW hn
  have hDb : ∀ c' r', c' + aK A ≤ aW A → r' < aT A → Dst M cr c' r' < 1000 := fun c' r' h1 h2 => by
    have := ds_7 M hM64 c' (by omega) h0
    unfold Dst abd
    omega
  intro m
  induction m with
  | zero =>
    intro f x c r I a b hx hf hm hc hr
    obtain ⟨f, rfl⟩ : ∃ f', f = f' + 1 := ⟨f - 1, by omega⟩
    rw [L_X5_wayStep, if_pos rfl]
    exact cnd_t (by decide) (cnd_t (by rw [cGt_nI (by omega) (by omega)]; exact dt (by omega)) rfl)
  | succ m ih =>
    intro f x c r I a b hx hf hm hc hr
    obtain ⟨g, rfl⟩ : ∃ g, f = (g + 4 + 1) + 1 := ⟨f - 6, by omega⟩
    have hpos : 0 < Dst M cr c r := by omega
    have hD1 := hDb c r hc hr
    obtain ⟨a1, a2, a3⟩ := nx_ok (by omega) hw.2.2.2.2.1 hM64 h0 hMW hc hr hcr hpos
    obtain ⟨k1, k2⟩ := okS_in a2 hc hr
    have hval : ∀ s, s < 4 → (decide (nbv A σ c r s = nI (Dst M cr c r) - 1) = true ↔ okS (aW A) (aT A) (aK A) s c r = true ∧ Dst M cr (stC s c) (stR s r) + 1 = Dst M cr c r) := by
      intro s hs
      rw [decide_eq_true_eq]
      obtain ⟨D, hD⟩ : ∃ D, Dst M cr c r = D + 1 := ⟨Dst M cr c r - 1, by omega⟩
      rw [hD, nI_pred]
      unfold nbv
      cases ho : okS (aW A) (aT A) (aK A) s c r with
      | false =>
        rw [cond_false]
        constructor
        · intro q; exact absurd q.symm (nI_m9 (by omega))
        · rintro ⟨q, -⟩; cases q
      | true =>
        obtain ⟨z1, z2⟩ := okS_in ho hc hr
        have := hDb _ _ z1 z2
        rw [cond_true, hd _ _ z1 z2]
        constructor
        · intro q; exact ⟨rfl, by rw [nI_inj (by omega) (by omega) q]⟩
        · rintro ⟨-, q⟩; rw [show Dst M cr (stC s c) (stR s r) = D from by omega]
    have hfin : finS (fun y => decide (nbv A σ c r y = nI (Dst M cr c r) - 1)) 4 (-9) = nI (nxS M cr c r) := by
      refine fin_nx _ a1 ((hval _ a1).mpr ⟨a2, a3⟩) (fun s hs => ?_) _
      have := nx_least (T := aT A) (by omega) hw.2.2.2.2.1 hM64 h0 hc hs
      cases hq : decide (nbv A σ c r s = nI (Dst M cr c r) - 1) with
      | false => rfl
      | true => exact absurd ((hval s (by omega)).mp hq) this
    obtain ⟨q1, q2⟩ := d_C (W := aW A) (T := aT A) (K := aK A) a1 a2
    have e1 := ws_in hW hn hM (x6 := nI (Dst M cr c r)) (nI k) (nI x) hc hr a1 4 g (-9) (Nat.le_refl 4) hfin
    have e2 := ih g (x + 1) _ _ (nI (nxS M cr c r)) 0 0 (by omega) (by omega) (by omega) k1 k2
    rw [q1, q2, nI_1, e2] at e1
    rw [L_X5_wayStep, if_neg (by omega), Nat.add_sub_cancel]
    refine cnd_t (by decide) (cnd_f (by rw [cGt_nI (by omega) (by omega)]; exact df (by omega)) (bd (e_far0 hW hn hM hc hr) ?_))
    dsimp only
    rw [hd c r hc hr]
    refine (show _ = _ from e1).trans ?_
    cases m with
    | zero => rw [if_pos rfl, ans_0 hM64 (by omega) h0 hpos]
    | succ m => rw [if_neg (by omega), Nat.add_sub_cancel, ans_s hM64 (by omega) h0 hpos]
theorem pr_way (σ : PS) (h : Rel σ) (p0 p1 : Int32) : Pair (F_X4_way p0 p1) (F_X5_way p0 p1) σ := pair_of h fun A hW => by
  have hb := wf_b hW
  cases hv0 : vin p0 (aW A * aT A) with
  | false =>
    refine ⟨-1, A, hW, ansC_q fun σ hC => ?_, ansM_q fun σ hM => ?_⟩
    · unfold F_X4_way
      exact bd (e_isCell hW hC p0) (cnd_f (nf hv0) rfl)
    · unfold F_X5_way
      exact bd (e_noPlace hW hM p0) (cnd_f (et (by rw [hv0]; rfl)) rfl)
  | true =>
  obtain ⟨q, hq, rfl⟩ := vin_ex hv0 (by omega)
  have en : (!vin (nI q) (aW A * aT A)) = false := by rw [hv0]; rfl
  cases h2 : inM p1 9 with
  | false =>
    refine ⟨-2, A, hW, ansC_q fun σ hC => ?_, ansM_q fun σ hM => ?_⟩
    · unfold F_X4_way
      exact bd (e_isCell hW hC _) (cnd_t (nt hv0) (bd (e_withinM p1 9 σ) (cnd_f (nf h2) rfl)))
    · unfold F_X5_way
      exact bd (e_noPlace hW hM _) (cnd_t (ef en) (bd (e_inM p1 (b := 9) (by decide) σ) (cnd_f (nf h2) rfl)))
  | true =>
  have hp := inM_ex (by decide) h2
  have hn : aW A ≠ 0 := fun z => by rw [z, Nat.zero_mul] at hq; omega
  have hw := wf_n hW hn
  obtain ⟨cc, cr, hcc, hcr, rfl⟩ : ∃ cc cr, cc < aW A ∧ cr < aT A ∧ aW A * cr + cc = q := ⟨q % aW A, q / aW A, Nat.mod_lt _ (by omega), Nat.div_lt_of_lt_mul hq, Nat.div_add_mod q (aW A)⟩
  have hM64 := mM_lt (aW A) (aK A) (aG A) cc
  refine ⟨wayA (mM (aW A) (aK A) (aG A) cc) (aC A) (aR A) cr p1, A, hW, ansC_q fun σ hC => ?_, ansM_mk fun σ hM => ?_⟩
  · unfold F_X4_way
    have e := e_ofWay hW hn hC hcc hcr hp
    exact bd (e_isCell hW hC _) (cnd_t (nt hv0) (bd (e_withinM p1 9 σ) (cnd_t (nt h2) (bd e rfl))))
  · obtain ⟨σ1, e1, f1, hd⟩ := e_meas hW hn hM hcc hcr
    have hM1 := RM_fr f1 hM
    refine ⟨σ1, ?_, hM1, f1.eqC⟩
    unfold F_X5_way
    refine bd (e_noPlace hW hM _) (cnd_t (ef en) (bd (e_inM p1 (b := 9) (by decide) σ) (cnd_t (nt h2) (bd e1 ?_))))
    dsimp only
    rw [hM1.1.2.2.2.1, hM1.1.2.2.2.2.1]
    refine bd (e_far0 hW hn hM1 hw.2.2.2.2.2.2.1 hw.2.2.2.2.2.2.2.1) ?_
    dsimp only
    rw [hd _ _ hw.2.2.2.2.2.2.1 hw.2.2.2.2.2.2.2.1]
    unfold wayA
    by_cases h0 : mM (aW A) (aK A) (aG A) cc = 0
    · rw [if_pos h0, if_neg (by omega)]
      exact cnd_t (by decide) rfl
    · rw [if_neg h0, if_pos h0]
      have hD7 := ds_7 _ hM64 (aC A) (by omega) h0
      have t1 := (ds_1 _ hM64 (aC A) (by omega) h0).1
      have hDeq : aR A - cr + (tgS (mM (aW A) (aK A) (aG A) cc) (aC A) - aC A) + (cr - aR A) + (aC A - tgS (mM (aW A) (aK A) (aG A) cc) (aC A)) = Dst (mM (aW A) (aK A) (aG A) cc) cr (aC A) (aR A) := by
        unfold Dst
        unfold abd at t1 ⊢
        omega
      have hDb : Dst (mM (aW A) (aK A) (aG A) cc) cr (aC A) (aR A) < 100 := by unfold Dst abd; omega
      refine cnd_f (cLt_pos (by omega)) ?_
      rcases hp with rfl | ⟨j, hj, rfl⟩
      · rw [hDeq]
        exact cnd_f (by decide) rfl
      · rw [cGe_p (by omega), cond_true, cond_true, cGe_nI (by omega) (by omega), tn (by omega)]
        by_cases hjd : Dst (mM (aW A) (aK A) (aG A) cc) cr (aC A) (aR A) ≤ j
        · rw [dt hjd]
          unfold ansN
          rw [if_neg (by omega), if_neg (by omega), if_neg (by omega), if_neg (by omega)]; rfl
        · rw [df hjd]
          have e := ws_run hW hn hM1 (k := j) hM64 h0 (mM_W (by omega)) hcr (by omega) (fun c r z1 z2 => by rw [hd c r z1 z2, if_pos h0]) (j + 1) fuelN 0 (aC A) (aR A) (-9) 0 0 (Nat.zero_add _) (by unfold fuelN; omega) (by omega) hw.2.2.2.2.2.2.1 hw.2.2.2.2.2.2.2.1
          rw [if_neg (by omega), Nat.add_sub_cancel, nI_0] at e
          have e2 : F_X5_wayStep (nI j) σ1 = some (ansN (aR A - cr) (tgS (mM (aW A) (aK A) (aG A) cc) (aC A) - aC A) (cr - aR A) (aC A - tgS (mM (aW A) (aK A) (aG A) cc) (aC A)) j, σ1) := by
            unfold F_X5_wayStep
            rw [hM1.1.2.2.2.1, hM1.1.2.2.2.2.1]
            exact e
          exact bd e2 rfl
