/-! begun: the model's side, and the pair -/
theorem bg_f6 (g : Nat) (x1 x2 x3 x4 x5 x7 x8 x9 x10 : Int32) (σ : PS) : L_X5_begins (g + 1) 6 x1 x2 x3 x4 x5 (bI false) x7 x8 x9 x10 σ = some (bI false, σ) := by
  rw [L_X5_begins]
  refine cnd_t (by decide) ?_
  cases cGe x7 x2 with
  | true => exact cnd_t rfl (cnd_t (okb_bI false) rfl)
  | false => exact cnd_f rfl (cnd_t (ef rfl) (cnd_t (okb_bI false) rfl))
theorem bg_f (g : Nat) (x1 x2 x3 x4 x5 x7 x8 x9 x10 : Int32) (σ : PS) : L_X5_begins (g + 1 + 1) 54 x1 x2 x3 x4 x5 (bI false) x7 x8 x9 x10 σ = some (bI false, σ) := by
  rw [L_X5_begins]
  refine cnd_f (by decide) (cnd_t (by decide) ?_)
  cases cGe x10 (gI σ 1219) with
  | true => exact cnd_t rfl (bg_f6 g _ _ _ _ _ _ _ _ _ σ)
  | false => exact cnd_f rfl (cnd_t (ef rfl) (bg_f6 g _ _ _ _ _ _ _ _ _ σ))
theorem bin_run {A : AS} {σ : PS} (hW : WF A) (hn : aW A ≠ 0) (hM : RM A σ) {d : Nat → Int32} {b N x c r : Nat} (hb : b + N ≤ 240) (hx : x * aK A + aK A ≤ N) (hd : ∀ y, y < N → gA σ 32 (b + y) = d y) (hc : c + aK A ≤ aW A) (hr : r < aT A) (x2 x3 x4 x5 : Int32) : ∀ (m g j : Nat) (t : Bool), j + m = aK A → ∃ g', g ≤ g' ∧ L_X5_begins (g + m + 1) 54 (nI b) x2 x3 x4 x5 (bI t) (nI x) (nI c) (nI r) (nI j) σ = L_X5_begins g' 6 (nI b) x2 x3 x4 x5 (bI (t && taB A d (x * aK A) (aW A * r + c) j)) (nI x + 1) 0 0 0 σ := by
  have hbb := wf_b hW
  have hw := wf_n hW hn
  have hl := cell_lt (W := aW A) (c := c + aK A - 1) (r := r) (T := aT A) (by omega) hr
  intro m
  induction m with
  | zero =>
    intro g j t hj
    refine ⟨g, Nat.le_refl _, ?_⟩
    rw [ta_end (by omega), Bool.and_true, show g + 0 + 1 = g + 1 from rfl, L_X5_begins]
    exact cnd_f (by decide) (cnd_t (by decide) (cnd_t (by rw [hM.1.2.2.1, cGe_nI (by omega) (by omega)]; exact dt (by omega)) rfl))
  | succ m ih =>
    intro g j t hj
    cases t with
    | false =>
      refine ⟨g + m + 1, by omega, ?_⟩
      rw [Bool.false_and, show g + (m + 1) + 1 = (g + m + 1) + 1 from rfl, L_X5_begins]
      exact cnd_f (by decide) (cnd_t (by decide) (cnd_f (by rw [hM.1.2.2.1, cGe_nI (by omega) (by omega)]; exact df (by omega)) (cnd_t (ef rfl) rfl)))
    | true =>
      cases hg : (aG A).testBit j with
      | true =>
        obtain ⟨g', h1, h2⟩ := ih g (j + 1) true (by omega)
        refine ⟨g', h1, ?_⟩
        rw [ta_gone hg, ← h2, show g + (m + 1) + 1 = (g + m + 1) + 1 from rfl, L_X5_begins]
        refine cnd_f (by decide) (cnd_t (by decide) (cnd_f (by rw [hM.1.2.2.1, cGe_nI (by omega) (by omega)]; exact df (by omega)) (cnd_f (et rfl) ?_)))
        rw [hM.1.2.2.2.2.2.2.1]
        refine bd (e_isIn hW (by omega)) (cnd_t (nt hg) ?_)
        rw [nI_1]; rfl
      | false =>
        obtain ⟨g', h1, h2⟩ := ih g (j + 1) (decide (nI (tellN (aKd A j) (aSh A j) (aH A (aW A * r + c + j))) = d (x * aK A + j))) (by omega)
        refine ⟨g', h1, ?_⟩
        rw [ta_succ (by omega) hg, Bool.true_and, ← h2, show g + (m + 1) + 1 = (g + m + 1) + 1 from rfl, L_X5_begins]
        refine cnd_f (by decide) (cnd_t (by decide) (cnd_f (by rw [hM.1.2.2.1, cGe_nI (by omega) (by omega)]; exact df (by omega)) (cnd_f (et rfl) ?_)))
        rw [hM.1.2.2.2.2.2.2.1]
        refine bd (e_isIn hW (by omega)) (cnd_f (nf hg) ?_)
        dsimp only
        rw [hM.1.1, pk_mul, nI_add, nI_add, tn (by omega), hM.2.1.1 _ (by omega)]
        refine cnd_t (vin_of_lt (by omega) (by decide)) (bd (e_tells hW hM (by omega) (hW.2.1.1 _ (by omega))) ?_)
        dsimp only
        rw [hM.1.2.2.1, pk_mul, nI_add, nI_add, Nat.mul_comm (aK A) x, tn (by omega), Nat.add_assoc b, hd _ (by omega)]
        refine cnd_t (vin_of_lt (by omega) (by decide)) ?_
        rw [nI_1]
        unfold cNe
        by_cases q : nI (tellN (aKd A j) (aSh A j) (aH A (aW A * r + c + j))) = d (x * aK A + j)
        · rw [dt q]; rfl
        · rw [df q]; rfl
theorem bgM_run {A : AS} {σ : PS} (hW : WF A) (hn : aW A ≠ 0) (hM : RM A σ) {d : Nat → Int32} {b n s c0 r0 : Nat} (hs : s < 4) (hn6 : n ≤ 6) (hb : b + n * aK A ≤ 240) (hd : ∀ y, y < n * aK A → gA σ 32 (b + y) = d y) : ∀ (m f x c r : Nat), x + m = n → 6 * m + 1 ≤ f → c + aK A ≤ aW A → r < aT A → (x = 0 → c0 = c ∧ r0 = r) → (0 < x → nI c0 + nI (x - 1) * dC s = nI c ∧ nI r0 + nI (x - 1) * dR s = nI r) → L_X5_begins f 6 (nI b) (nI n) (nI s) (nI c0) (nI r0) (bI true) (nI x) 0 0 0 σ = some (bI (bgR A d s m x c r), σ) := by
  have hbb := wf_b hW
  have hw := wf_n hW hn
  have hN : n * aK A ≤ 24 := Nat.mul_le_mul hn6 hbb.2.2.1
  intro m
  induction m with
  | zero =>
    intro f x c r hx hf hc hr h1 h2
    obtain ⟨f, rfl⟩ : ∃ f', f = f' + 1 := ⟨f - 1, by omega⟩
    rw [L_X5_begins]
    exact cnd_t (by decide) (cnd_t (by rw [cGe_nI (by omega) (by omega)]; exact dt (by omega)) (cnd_t (okb_bI true) rfl))
  | succ m ih =>
    intro f x c r hx hf hc hr h1 h2
    obtain ⟨g, rfl⟩ : ∃ g, f = (g + aK A + 1) + 1 := ⟨f - aK A - 2, by omega⟩
    have hxK : x * aK A + aK A ≤ n * aK A := by
      rw [← Nat.succ_mul]; exact Nat.mul_le_mul_right _ (by omega)
    rw [L_X5_begins, bgR]
    refine cnd_t (by decide) (cnd_f (by rw [cGe_nI (by omega) (by omega)]; exact df (by omega)) (cnd_f (et rfl) (bd (e_colBy hs σ) (bd (e_rowBy hs σ) ?_))))
    by_cases h0 : x = 0
    · obtain ⟨rfl, rfl⟩ := h1 h0
      subst h0
      rw [if_pos rfl]
      dsimp only
      rw [nI_0, Int32.zero_mul, Int32.zero_mul, Int32.add_zero, Int32.add_zero]
      refine bd (e_isPlaceM hW hn hM _ _) ?_
      rw [vin_of_lt (by omega) (by omega), vin_of_lt hr (by omega)]
      obtain ⟨g', q1, q2⟩ := bin_run hW hn hM (x := 0) (c := c0) (r := r0) hb hxK hd hc hr (nI n) (nI s) (nI c0) (nI r0) (aK A) g 0 true (by omega)
      rw [nI_0] at q2
      refine q2.trans ?_
      rw [Nat.zero_mul, Bool.true_and]
      cases taB A d 0 (aW A * r0 + c0) 0 with
      | false =>
        obtain ⟨g', rfl⟩ : ∃ g2, g' = g2 + 1 := ⟨g' - 1, by omega⟩
        rw [Bool.false_and]
        exact bg_f6 g' _ _ _ _ _ _ _ _ _ σ
      | true =>
        rw [Bool.true_and, ← nI_0, nI_1]
        exact ih g' 1 c0 r0 (by omega) (by omega) hc hr (fun q => by omega) (fun _ => ⟨by rw [Nat.sub_self, nI_0, Int32.zero_mul, Int32.add_zero], by rw [Nat.sub_self, nI_0, Int32.zero_mul, Int32.add_zero]⟩)
    · obtain ⟨p1, p2⟩ := h2 (by omega)
      obtain ⟨y, rfl⟩ : ∃ y, x = y + 1 := ⟨x - 1, by omega⟩
      rw [Nat.add_sub_cancel] at p1 p2
      rw [if_neg h0]
      dsimp only
      have e1 : nI c0 + nI (y + 1) * dC s = nI c + dC s := by rw [← nI_1, Int32.add_mul, Int32.one_mul, ← Int32.add_assoc, p1]
      have e2 : nI r0 + nI (y + 1) * dR s = nI r + dR s := by rw [← nI_1, Int32.add_mul, Int32.one_mul, ← Int32.add_assoc, p2]
      rw [e1, e2]
      refine bd (e_isPlaceM hW hn hM _ _) ?_
      rw [d_ok (by omega) (by omega) hs hc hr]
      cases ho : okS (aW A) (aT A) (aK A) s c r with
      | false =>
        rw [Bool.false_and, show g + aK A + 1 = (g + aK A - 1 + 1) + 1 from by omega]
        exact bg_f _ _ _ _ _ _ _ _ _ _ σ
      | true =>
        obtain ⟨k1, k2⟩ := okS_in ho hc hr
        obtain ⟨q3, q4⟩ := d_C (W := aW A) (T := aT A) (K := aK A) hs ho
        rw [Bool.true_and, q3, q4]
        obtain ⟨g', q1, q2⟩ := bin_run hW hn hM (x := y + 1) (c := stC s c) (r := stR s r) hb hxK hd k1 k2 (nI n) (nI s) (nI c0) (nI r0) (aK A) g 0 true (by omega)
        rw [nI_0] at q2
        refine q2.trans ?_
        rw [Bool.true_and]
        cases taB A d ((y + 1) * aK A) (aW A * stR s r + stC s c) 0 with
        | false =>
          obtain ⟨g', rfl⟩ : ∃ g2, g' = g2 + 1 := ⟨g' - 1, by omega⟩
          rw [Bool.false_and]
          exact bg_f6 g' _ _ _ _ _ _ _ _ _ σ
        | true =>
          rw [Bool.true_and, nI_1]
          exact ih g' (y + 1 + 1) _ _ (by omega) (by omega) k1 k2 (fun q => by omega) (fun _ => ⟨by rw [Nat.add_sub_cancel, e1, q3], by rw [Nat.add_sub_cancel, e2, q4]⟩)
/-- how many, the least, the greatest -/
def bgH (A : AS) (B : Nat → Nat → Bool) (c r : Nat) (x : Nat × Nat × Nat) : Nat × Nat × Nat := bif B c r then (x.1 + 1, (if x.2.1 = 0 then aW A * r + c + 1 else x.2.1), aW A * r + c + 1) else x
def bgA (w : Nat) (x : Nat × Nat × Nat) : Int32 := if w = 0 then nI x.1 else if w = 1 then hv x.2.1 else hv x.2.2
theorem bgA_is (w : Nat) (hw : w ≤ 2) (x : Nat × Nat × Nat) (σ : PS) : (bif cNe (nI w) 0 then (bif cNe (nI w) 1 then some (hv x.2.2, σ) else some (hv x.2.1, σ)) else some (nI x.1, σ)) = some (bgA w x, σ) := by
  have h3 : w = 0 ∨ w = 1 ∨ w = 2 := by omega
  rcases h3 with rfl | rfl | rfl <;> rfl
theorem obC_run {A : AS} {σ : PS} (hW : WF A) (hn : aW A ≠ 0) (hC : RC A σ) {d : Nat → Int32} {s n w : Nat} (hs : s < 4) (hn6 : n ≤ 6) (hw2 : w ≤ 2) (hd : ∀ x, x < n * aK A → gA σ 18 x = d x) : ∀ (m f q : Nat) (x : Nat × Nat × Nat), q + m = aW A * aT A → m < f → (x.1 = 0 ↔ x.2.1 = 0) → x.1 ≤ q → L_X1_ofBegins 18 60 f (nI n) (nI s) (nI w) (nI x.1) (hv x.2.1) (hv x.2.2) (nI q) σ = some (bgA w (fqG (aW A) (aK A) (bgH A fun c r => bgR A d s n 0 c r) m q x), σ) := by
  have hb := wf_b hW
  have hw := wf_n hW hn
  intro m
  induction m with
  | zero =>
    intro f q x hq hf h1 h2
    obtain ⟨f, rfl⟩ : ∃ f', f = f' + 1 := ⟨f - 1, by omega⟩
    rw [L_X1_ofBegins]
    refine bd (e_cells hC) (cnd_t ?_ (bgA_is w hw2 x σ))
    dsimp only
    rw [cGe_nI (by omega) (by omega)]; exact dt (by omega)
  | succ m ih =>
    intro f q x hq hf h1 h2
    obtain ⟨f, rfl⟩ : ∃ f', f = f' + 1 := ⟨f - 1, by omega⟩
    have hm : q % aW A < aW A := Nat.mod_lt _ (by omega)
    have hdv : q / aW A < aT A := Nat.div_lt_of_lt_mul (by omega)
    have hqq : aW A * (q / aW A) + q % aW A = q := Nat.div_add_mod q (aW A)
    rw [L_X1_ofBegins]
    refine bd (e_cells hC) (cnd_f ?_ (bd (e_isPlaceC hW hn hC (q := q) (by omega)) ?_))
    · dsimp only
      rw [cGe_nI (by omega) (by omega)]; exact df (by omega)
    · show _ = some (bgA w (fqG (aW A) (aK A) (bgH A fun c r => bgR A d s n 0 c r) m (q + 1) (if q % aW A + aK A ≤ aW A then bgH A (fun c r => bgR A d s n 0 c r) (q % aW A) (q / aW A) x else x)), σ)
      by_cases hp : q % aW A + aK A ≤ aW A
      · rw [if_pos hp]
        refine cnd_f (et (dt hp)) ?_
        have e := bgC_run hW hn hC (d := d) hs hn6 hd n fuelN 0 (q % aW A) (q / aW A) (by omega) (by unfold fuelN; omega) hp hdv
        rw [hqq, nI_0] at e
        refine bd (r := F_X1_isToldFrom _ _ _ _ _ _) e ?_
        rw [show bgH A (fun c r => bgR A d s n 0 c r) (q % aW A) (q / aW A) x = bif bgR A d s n 0 (q % aW A) (q / aW A) then (x.1 + 1, (if x.2.1 = 0 then aW A * (q / aW A) + q % aW A + 1 else x.2.1), aW A * (q / aW A) + q % aW A + 1) else x from rfl, hqq]
        cases bgR A d s n 0 (q % aW A) (q / aW A) with
        | false =>
          refine cnd_f (nf rfl) ?_
          rw [nI_1, cond_false]
          exact ih f (q + 1) x (by omega) (by omega) h1 (by omega)
        | true =>
          refine cnd_t (nt rfl) ?_
          dsimp only
          rw [cond_true, nI_1, nI_1]
          by_cases h0 : x.1 = 0
          · refine cnd_f ((cNe_nI (b := 0) (by omega) (by decide)).trans (by rw [dt h0]; rfl)) ?_
            rw [if_pos (h1.mp h0)]
            exact ih f (q + 1) (x.1 + 1, q + 1, q + 1) (by omega) (by omega) (by dsimp only; omega) (by dsimp only; omega)
          · refine cnd_t ((cNe_nI (b := 0) (by omega) (by decide)).trans (by rw [df h0]; rfl)) ?_
            have h4 : x.2.1 ≠ 0 := fun e => h0 (h1.mpr e)
            rw [if_neg h4]
            exact ih f (q + 1) (x.1 + 1, x.2.1, q + 1) (by omega) (by omega) (by dsimp only; omega) (by dsimp only; omega)
      · rw [if_neg hp]
        refine cnd_t (ef (df hp)) ?_
        rw [nI_1]
        exact ih f (q + 1) x (by omega) (by omega) h1 (by omega)
theorem e_bgM {A : AS} {σ : PS} (hW : WF A) (hn : aW A ≠ 0) (hM : RM A σ) {d : Nat → Int32} {b n s c r : Nat} (hs : s < 4) (hn6 : n ≤ 6) (hb : b + n * aK A ≤ 240) (hd : ∀ y, y < n * aK A → gA σ 32 (b + y) = d y) (hc : c + aK A ≤ aW A) (hr : r < aT A) : F_X5_begins (nI b) (nI n) (nI s) (nI c) (nI r) σ = some (bI (bgR A d s n 0 c r), σ) := by
  have e := bgM_run hW hn hM (d := d) (c0 := c) (r0 := r) hs hn6 hb hd n fuelN 0 c r (by omega) (by unfold fuelN; omega) hc hr (fun _ => ⟨rfl, rfl⟩) (fun q => by omega)
  rw [nI_0] at e
  exact e
theorem obM_in {A : AS} {σ : PS} (hW : WF A) (hn : aW A ≠ 0) (hM : RM A σ) {d : Nat → Int32} {b n s w r : Nat} (hs : s < 4) (hn6 : n ≤ 6) (hb : b + n * aK A ≤ 240) (hd : ∀ y, y < n * aK A → gA σ 32 (b + y) = d y) (hr : r < aT A) : ∀ (j g c : Nat) (x : Nat × Nat × Nat), c + j = aW A - aK A + 1 → x.2.1 ≤ 40 → L_X5_begunBy (g + j + 1) 26 (nI b) (nI n) (nI s) (nI w) (nI x.1) (hv x.2.1) (hv x.2.2) (nI r) (nI c) σ = L_X5_begunBy g 14 (nI b) (nI n) (nI s) (nI w) (nI (fcG (bgH A fun c r => bgR A d s n 0 c r) r j c x).1) (hv (fcG (bgH A fun c r => bgR A d s n 0 c r) r j c x).2.1) (hv (fcG (bgH A fun c r => bgR A d s n 0 c r) r j c x).2.2) (nI (r + 1)) 0 σ := by
  have hbb := wf_b hW
  have hw := wf_n hW hn
  intro j
  induction j with
  | zero =>
    intro g c x hc hx
    rw [show g + 0 + 1 = g + 1 from rfl, L_X5_begunBy]
    refine cnd_f (by decide) (cnd_t (by decide) (cnd_t ?_ ?_))
    · rw [hM.1.1, hM.1.2.2.1, pk_sub (by omega), cGt_nI (by omega) (by omega)]; exact dt (by omega)
    · rw [nI_1]; rfl
  | succ j ih =>
    intro g c x hc hx
    have hl := cell_lt (W := aW A) (c := c) (r := r) (T := aT A) (by omega) hr
    rw [show fcG (bgH A fun c r => bgR A d s n 0 c r) r (j + 1) c x = fcG (bgH A fun c r => bgR A d s n 0 c r) r j (c + 1) (bif bgR A d s n 0 c r then (x.1 + 1, (if x.2.1 = 0 then aW A * r + c + 1 else x.2.1), aW A * r + c + 1) else x) from rfl, show g + (j + 1) + 1 = (g + j + 1) + 1 from rfl, L_X5_begunBy]
    refine cnd_f (by decide) (cnd_t (by decide) (cnd_f ?_ (bd (e_bgM hW hn hM (d := d) hs hn6 hb hd (c := c) (r := r) (by omega) hr) ?_)))
    · rw [hM.1.1, hM.1.2.2.1, pk_sub (by omega), cGt_nI (by omega) (by omega)]; exact df (by omega)
    · dsimp only
      rw [hM.1.1, pk_mul, nI_add, nI_1, nI_1]
      cases bgR A d s n 0 c r with
      | false =>
        refine cnd_t (ef rfl) ?_
        rw [cond_false]
        exact ih g (c + 1) x (by omega) hx
      | true =>
        refine cnd_f (et rfl) ?_
        rw [cond_true]
        by_cases h0 : x.2.1 = 0
        · refine cnd_f (by rw [h0]; decide) ?_
          rw [if_pos h0]
          exact ih g (c + 1) (x.1 + 1, aW A * r + c + 1, aW A * r + c + 1) (by omega) (by dsimp only; omega)
        · refine cnd_t ?_ ?_
          · unfold hv
            rw [if_neg h0]
            exact cGe_p (by omega)
          · rw [if_neg h0]
            exact ih g (c + 1) (x.1 + 1, x.2.1, aW A * r + c + 1) (by omega) hx
theorem bgH_le {A : AS} (hW : WF A) (hn : aW A ≠ 0) (B : Nat → Nat → Bool) {r : Nat} (hr : r < aT A) : ∀ (j c : Nat) (x : Nat × Nat × Nat), c + j = aW A - aK A + 1 → x.2.1 ≤ 40 → (fcG (bgH A B) r j c x).2.1 ≤ 40 := by
  have hbb := wf_b hW
  have hw := wf_n hW hn
  intro j
  induction j with
  | zero => intro c x _ hx; exact hx
  | succ j ih =>
    intro c x hc hx
    have hl := cell_lt (W := aW A) (c := c) (r := r) (T := aT A) (by omega) hr
    refine ih (c + 1) _ (by omega) ?_
    unfold bgH
    cases B c r with
    | false => exact hx
    | true =>
      show (if x.2.1 = 0 then aW A * r + c + 1 else x.2.1) ≤ 40
      split <;> omega
theorem obM_run {A : AS} {σ : PS} (hW : WF A) (hn : aW A ≠ 0) (hM : RM A σ) {d : Nat → Int32} {b n s w : Nat} (hs : s < 4) (hn6 : n ≤ 6) (hw2 : w ≤ 2) (hb : b + n * aK A ≤ 240) (hd : ∀ y, y < n * aK A → gA σ 32 (b + y) = d y) : ∀ (m f r : Nat) (x : Nat × Nat × Nat), r + m = aT A → 8 * m + 1 ≤ f → x.2.1 ≤ 40 → L_X5_begunBy f 14 (nI b) (nI n) (nI s) (nI w) (nI x.1) (hv x.2.1) (hv x.2.2) (nI r) 0 σ = some (bgA w (frG (aW A) (aK A) (bgH A fun c r => bgR A d s n 0 c r) m r x), σ) := by
  have hbb := wf_b hW
  have hw := wf_n hW hn
  intro m
  induction m with
  | zero =>
    intro f r x hr hf hx
    obtain ⟨f, rfl⟩ : ∃ f', f = f' + 1 := ⟨f - 1, by omega⟩
    rw [L_X5_begunBy]
    refine cnd_t (by decide) (cnd_t ?_ (bgA_is w hw2 x σ))
    rw [hM.1.2.1, cGe_nI (by omega) (by omega)]; exact dt (by omega)
  | succ m ih =>
    intro f r x hr hf hx
    obtain ⟨g, rfl⟩ : ∃ g, f = (g + (aW A - aK A + 1) + 1) + 1 := ⟨f - (aW A - aK A + 1) - 2, by omega⟩
    rw [L_X5_begunBy]
    refine cnd_t (by decide) (cnd_f ?_ ?_)
    · rw [hM.1.2.1, cGe_nI (by omega) (by omega)]; exact df (by omega)
    · have e := obM_in hW hn hM (d := d) (w := w) hs hn6 hb hd (r := r) (by omega) (aW A - aK A + 1) g 0 x (by omega) hx
      rw [nI_0] at e
      refine e.trans ?_
      exact ih g (r + 1) _ (by omega) (by omega) (bgH_le hW hn _ (by omega) _ _ _ (by omega) hx)
theorem bgR_F (A : AS) (d : Nat → Int32) (s : Nat) : ∀ m x c r, bgR (setS A 8 0) d s m x c r = bgR A d s m x c r := by
  intro m
  induction m with
  | zero => intro x c r; rfl
  | succ m ih =>
    intro x c r
    rw [bgR, bgR, ih, ih]; rfl
theorem bgH_F (A : AS) (d : Nat → Int32) (s n : Nat) : (bgH (setS A 8 0) fun c r => bgR (setS A 8 0) d s n 0 c r) = bgH A fun c r => bgR A d s n 0 c r := by
  have e : (fun c r => bgR (setS A 8 0) d s n 0 c r) = fun c r => bgR A d s n 0 c r := by
    funext c r
    exact bgR_F A d s n 0 c r
  rw [e]; rfl
theorem e_lookersC {A : AS} {σ : PS} (hC : RC A σ) : F_X1_lookers σ = some (nI (aK A), σ) := by
  unfold F_X1_lookers
  rw [hC.1.2.2.1]
theorem pr_begun (σ : PS) (h : Rel σ) (p0 p1 p2 p3 p4 p5 : Int32) : Pair (F_X4_begun p0 p1 p2 p3 p4 p5) (F_X5_begun p0 p1 p2 p3 p4 p5) σ := pair_of h fun A hW => by
  have hb := wf_b hW
  cases hv0 : vin p0 4 with
  | false =>
    refine pr_ref (v := -1) hW (fun σ hC => ?_) (fun σ hM => ?_)
    · unfold F_X4_begun
      exact bd (e_sheetOf_n _ hv0) rfl
    · unfold F_X5_begun
      exact bd (e_noSheet p0 σ) (cnd_f (et (by rw [hv0]; rfl)) (bd rfl rfl))
  | true =>
  obtain ⟨k, hk, rfl⟩ := vin_ex hv0 (by decide)
  have hz := hW.2.2.2 k hk
  have en : (!vin (nI k) 4) = false := by rw [hv0]; rfl
  cases h1 : inR p1 0 2 with
  | false =>
    refine pr_ref (v := -2) hW (fun σ hC => ?_) (fun σ hM => ?_)
    · unfold F_X4_begun
      exact bd (e_sheetOf _ hk) (cnd_t (isSh_k hk) (bd (e_isLane p1 _) (cnd_t (ef h1) rfl)))
    · unfold F_X5_begun
      exact bd (e_noSheet _ σ) (cnd_t (ef en) (bd (e_lane02 p1 σ) (cnd_t (ef h1) (bd rfl rfl))))
  | true =>
  obtain ⟨l, hl, rfl⟩ := inR_ex h1 (by decide)
  cases h3 : inR p3 1 6 with
  | false =>
    refine pr_ref (v := -2) hW (fun σ hC => ?_) (fun σ hM => ?_)
    · unfold F_X4_begun
      exact bd (e_sheetOf _ hk) (cnd_t (isSh_k hk) (bd (e_isLane _ _) (cnd_f (et h1) (bd (e_within p3 1 6 _) (cnd_t (ef h3) rfl)))))
    · unfold F_X5_begun
      exact bd (e_noSheet _ σ) (cnd_t (ef en) (bd (e_lane02 _ σ) (cnd_f (et h1) (bd (e_inR p3 1 6 (by decide) (by decide) σ) (cnd_t (ef h3) (bd rfl rfl))))))
  | true =>
  obtain ⟨n, hn1, hn6, rfl⟩ := inR_ex1 h3 (by decide)
  cases h4 : inR p4 0 3 with
  | false =>
    refine pr_ref (v := -2) hW (fun σ hC => ?_) (fun σ hM => ?_)
    · unfold F_X4_begun
      exact bd (e_sheetOf _ hk) (cnd_t (isSh_k hk) (bd (e_isLane _ _) (cnd_f (et h1) (bd (e_within _ 1 6 _) (cnd_f (et h3) (bd (e_isStep p4 _) (cnd_t (ef h4) rfl)))))))
    · unfold F_X5_begun
      exact bd (e_noSheet _ σ) (cnd_t (ef en) (bd (e_lane02 _ σ) (cnd_f (et h1) (bd (e_inR _ 1 6 (by decide) (by decide) σ) (cnd_f (et h3) (bd (e_step4 p4 σ) (cnd_t (ef h4) (bd rfl rfl))))))))
  | true =>
  obtain ⟨s, hs3, rfl⟩ := inR_ex h4 (by decide)
  cases h5 : inR p5 0 2 with
  | false =>
    refine pr_ref (v := -2) hW (fun σ hC => ?_) (fun σ hM => ?_)
    · unfold F_X4_begun
      exact bd (e_sheetOf _ hk) (cnd_t (isSh_k hk) (bd (e_isLane _ _) (cnd_f (et h1) (bd (e_within _ 1 6 _) (cnd_f (et h3) (bd (e_isStep _ _) (cnd_f (et h4) (bd (e_within p5 0 2 _) (cnd_f (nf h5) rfl)))))))))
    · unfold F_X5_begun
      exact bd (e_noSheet _ σ) (cnd_t (ef en) (bd (e_lane02 _ σ) (cnd_f (et h1) (bd (e_inR _ 1 6 (by decide) (by decide) σ) (cnd_f (et h3) (bd (e_step4 _ σ) (cnd_f (et h4) (bd (e_lane02 p5 σ) (cnd_f (nf h5) (bd rfl rfl))))))))))
  | true =>
  obtain ⟨w, hw2, rfl⟩ := inR_ex h5 (by decide)
  by_cases hn : aW A = 0
  · have hK : aK A = 0 := (wf_K hW).mpr hn
    refine pr_ref (v := -3) hW (fun σ hC => ?_) (fun σ hM => ?_)
    · unfold F_X4_begun
      exact bd (e_sheetOf _ hk) (cnd_t (isSh_k hk) (bd (e_isLane _ _) (cnd_f (et h1) (bd (e_within _ 1 6 _) (cnd_f (et h3) (bd (e_isStep _ _) (cnd_f (et h4) (bd (e_within _ 0 2 _) (cnd_t (nt h5) (bd (e_exists (A := setS A 8 0) (WF_f hW (by decide)) (RC_f 0 hC)) (cnd_f (nf (show (!decide (aW A = 0)) = false by rw [dt hn]; rfl)) rfl)))))))))))
    · unfold F_X5_begun
      refine bd (e_noSheet _ σ) (cnd_t (ef en) (bd (e_lane02 _ σ) (cnd_f (et h1) (bd (e_inR _ 1 6 (by decide) (by decide) σ) (cnd_f (et h3) (bd (e_step4 _ σ) (cnd_f (et h4) (bd (e_lane02 _ σ) (cnd_t (nt h5) (cnd_f ?_ (bd rfl rfl)))))))))))
      dsimp only
      rw [hM.1.2.2.1, hK]; rfl
  have hK : aK A ≠ 0 := fun q => hn ((wf_K hW).mp q)
  have hw := wf_n hW hn
  have hN : n * aK A ≤ 24 := Nat.mul_le_mul hn6 hb.2.2.1
  refine pr_src hW hk hl (p := p2) (q := nI (n * aK A)) (fb := fun s8 => (F_X1_ofBegins 18 60 (nI n) (nI s) (nI w) s8).bind fun q9 => some (q9.1, q9.2)) (gb := fun s9 => (F_X5_begunBy (60 * nI k + p2) (nI n) (nI s) (nI w) s9).bind fun q10 => (F_X5_refused q10.1 q10.2).bind fun q11 => some (q11.1, q11.2)) (fun σ hC => ?_) (fun σ hM => ?_) (fun i n2 e1 e2 hz2 => ?_)
  · unfold F_X4_begun
    refine bd (e_sheetOf _ hk) (cnd_t (isSh_k hk) (bd (e_isLane _ _) (cnd_f (et h1) (bd (e_within _ 1 6 _) (cnd_f (et h3) (bd (e_isStep _ _) (cnd_f (et h4) (bd (e_within _ 0 2 _) (cnd_t (nt h5) (bd (e_exists (A := setS A 8 0) (WF_f hW (by decide)) (RC_f 0 hC)) (cnd_t (nt (show (!decide (aW A = 0)) = true by rw [df hn]; rfl)) (bd (show F_X1_lookers (sI σ 5 (nI 0)) = some (nI (aK A), sI σ 5 (nI 0)) from e_lookersC (A := setS A 8 0) (RC_f 0 hC)) ?_))))))))))))
    rw [← pk_mul]
  · unfold F_X5_begun
    refine bd (e_noSheet _ σ) (cnd_t (ef en) (bd (e_lane02 _ σ) (cnd_f (et h1) (bd (e_inR _ 1 6 (by decide) (by decide) σ) (cnd_f (et h3) (bd (e_step4 _ σ) (cnd_f (et h4) (bd (e_lane02 _ σ) (cnd_t (nt h5) (cnd_t ?_ ?_))))))))))
    · dsimp only
      rw [hM.1.2.2.1]
      exact (cNe_nI (b := 0) (by omega) (by decide)).trans (by rw [df hK]; rfl)
    · dsimp only
      rw [hM.1.2.2.1, pk_mul]
  · have e3 : n2 = n * aK A := by
      have := congrArg Int32.toNatClampNeg e2
      rcases Nat.lt_or_ge n2 2147483648 with q | q
      · rw [tn (by omega), tn q] at this; omega
      · omega
    subst e3
    subst e1
    have eb : 60 * nI k + nI i = nI (60 * k + i) := by rw [show (60 : Int32) = nI 60 from rfl, pk_mul, nI_add]
    have hfold := fq_fr (aW A) (aK A) hw.2.2.2.2.1 (by omega) (bgH A fun c r => bgR A (fun x => aX A k (i + x)) s n 0 c r) (aT A) 0 (0, 0, 0)
    rw [Nat.mul_zero] at hfold
    refine ⟨bgA w (frG (aW A) (aK A) (bgH A fun c r => bgR A (fun x => aX A k (i + x)) s n 0 c r) (aT A) 0 (0, 0, 0)), setS A 8 0, WF_f hW (by decide), fun σ hC hd => ⟨σ, ?_, hC, eqM.rf⟩, fun σ hM => ⟨sI σ 1216 (nI 0), ?_, RM_f 0 hM, eqC_sI (by decide)⟩⟩
    · have e := obC_run (A := setS A 8 0) (WF_f hW (by decide)) hn hC (d := fun x => aX A k (i + x)) (s := s) (n := n) (w := w) (by omega) hn6 hw2 hd (aW A * aT A) fuelN 0 (0, 0, 0) (Nat.zero_add _) (by unfold fuelN; omega) (by decide) (Nat.le_refl _)
      rw [bgH_F] at e
      have e : L_X1_ofBegins 18 60 fuelN (nI n) (nI s) (nI w) (nI 0) (hv 0) (hv 0) (nI 0) σ = some (bgA w (fqG (aW A) (aK A) (bgH A fun c r => bgR A (fun x => aX A k (i + x)) s n 0 c r) (aW A * aT A) 0 (0, 0, 0)), σ) := e
      rw [hfold, nI_0] at e
      exact bd (r := F_X1_ofBegins _ _ _ _ _ _) e rfl
    · have e := obM_run hW hn hM (d := fun x => aX A k (i + x)) (b := 60 * k + i) (s := s) (n := n) (w := w) (by omega) hn6 hw2 (by omega) (fun y hy => by rw [Nat.add_assoc]; exact (hM.2.2.2.2.2 k hk).2.2 (i + y) (by omega)) (aT A) fuelN 0 (0, 0, 0) (Nat.zero_add _) (by unfold fuelN; omega) (by decide)
      have e : L_X5_begunBy fuelN 14 (nI (60 * k + i)) (nI n) (nI s) (nI w) (nI 0) (hv 0) (hv 0) (nI 0) 0 σ = some (bgA w (frG (aW A) (aK A) (bgH A fun c r => bgR A (fun x => aX A k (i + x)) s n 0 c r) (aT A) 0 (0, 0, 0)), σ) := e
      rw [eb]
      rw [nI_0] at e
      exact bd (r := F_X5_begunBy _ _ _ _ _) e (bd rfl rfl)
