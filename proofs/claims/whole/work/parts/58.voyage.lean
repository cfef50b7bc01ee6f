/-! the pair of voyage -/
theorem ne_m9 {n : Nat} (h : n < 2147483648) : cNe (nI n) (-9) = true := by
  unfold cNe
  rw [decide_eq_false]; · rfl
  intro q
  have := congrArg Int32.toInt q
  rw [nI_toInt h, show (-9 : Int32).toInt = -9 from by decide] at this
  omega
theorem smN_P (A : AS) (c r S P : Nat) : ∀ k, smN (setP A c r S) P k = smN A P k := by
  intro k
  induction k with
  | zero => rfl
  | succ k ih =>
    show smN (setP A c r S) P k + _ = smN A P k + _
    rw [ih]; rfl
theorem mxN_P (A : AS) (c r S P : Nat) : ∀ k, mxN (setP A c r S) P k = mxN A P k := by
  intro k
  induction k with
  | zero => rfl
  | succ k ih =>
    show max (mxN (setP A c r S) P k) _ = max (mxN A P k) _
    rw [ih]; rfl
def allS (d : Nat → Int32) (n x : Nat) : Bool := decide (∀ y, y < n → x ≤ y → inR (d y) 0 3 = true)
theorem all_end {d : Nat → Int32} {n x : Nat} (h : n ≤ x) : allS d n x = true := dt fun y h1 h2 => by omega
theorem all_succ {d : Nat → Int32} {n x : Nat} (h : x < n) : allS d n x = (inR (d x) 0 3 && allS d n (x + 1)) := by
  unfold allS
  cases h1 : inR (d x) 0 3 with
  | true =>
    rw [Bool.true_and, decide_eq_decide]
    constructor
    · intro q y hy hj; exact q y hy (by omega)
    · intro q y hy hj
      by_cases e : y = x
      · rw [e]; exact h1
      · exact q y hy (by omega)
  | false =>
    rw [Bool.false_and]
    exact df fun q => by have := q x h (Nat.le_refl _); rw [h1] at this; cases this
theorem vC_run {d : Nat → Int32} {n : Nat} {w : Int32} {σ : PS} (hn : n ≤ 40) (hd : ∀ x, x < n → gA σ 18 x = d x) : ∀ (m f x : Nat), x + m = n → m < f → L_X4_voyage f (nI n) w (nI x) σ = bif allS d n x then (F_X1_ofVoyage 18 60 (nI n) w σ).bind fun q => some (q.1, q.2) else some (-2, σ) := by
  intro m
  induction m with
  | zero =>
    intro f x hx hf
    obtain ⟨f, rfl⟩ : ∃ f', f = f' + 1 := ⟨f - 1, by omega⟩
    rw [L_X4_voyage, all_end (by omega), cond_true]
    exact cnd_t (by rw [cGe_nI (by omega) (by omega)]; exact dt (by omega)) rfl
  | succ m ih =>
    intro f x hx hf
    obtain ⟨f, rfl⟩ : ∃ f', f = f' + 1 := ⟨f - 1, by omega⟩
    have ih' := ih f (x + 1) (by omega) (by omega)
    rw [L_X4_voyage, all_succ (by omega)]
    refine cnd_f (by rw [cGe_nI (by omega) (by omega)]; exact df (by omega)) (bd (e_numberAt _ σ (by decide)) ?_)
    dsimp only
    rw [vin_of_lt (by omega) (by decide), tn (by omega), cond_true, hd x (by omega)]
    refine bd (e_isStep _ σ) ?_
    cases h1 : inR (d x) 0 3 with
    | true =>
      rw [Bool.true_and, ← ih', ← nI_1]
      exact cnd_t (nt rfl) rfl
    | false =>
      rw [Bool.false_and, cond_false]
      exact cnd_f (nf rfl) rfl
theorem vM_run {d : Nat → Int32} {k i n : Nat} {w : Int32} {σ : PS} (hn : n ≤ 40) (hk : k < 4) (hi : i + n ≤ 60) (hd : ∀ x, x < n → gA σ 32 (60 * k + i + x) = d x) : ∀ (m f x : Nat), x + m = n → m < f → L_X5_voyage f (nI k) (nI i) (nI n) w (nI x) σ = bif allS d n x then (F_X5_keepAll σ).bind (fun q1 => (F_X5_voyageBy (nI (60 * k + i)) (nI n) w q1.2).bind fun q2 => (F_X5_bringBack q2.2).bind fun q3 => (F_X5_refused q2.1 q3.2).bind fun q4 => some (q4.1, q4.2)) else some (-2, sI σ 1216 (nI 0)) := by
  have eb : 60 * nI k + nI i = nI (60 * k + i) := by rw [show (60 : Int32) = nI 60 from rfl, pk_mul, nI_add]
  intro m
  induction m with
  | zero =>
    intro f x hx hf
    obtain ⟨f, rfl⟩ : ∃ f', f = f' + 1 := ⟨f - 1, by omega⟩
    rw [L_X5_voyage, all_end (by omega), cond_true, eb]
    exact cnd_t (by rw [cGe_nI (by omega) (by omega)]; exact dt (by omega)) rfl
  | succ m ih =>
    intro f x hx hf
    obtain ⟨f, rfl⟩ : ∃ f', f = f' + 1 := ⟨f - 1, by omega⟩
    have ih' := ih f (x + 1) (by omega) (by omega)
    rw [L_X5_voyage, all_succ (by omega), eb, nI_add, tn (by omega), hd x (by omega)]
    refine cnd_f (by rw [cGe_nI (by omega) (by omega)]; exact df (by omega)) (cnd_t (vin_of_lt (by omega) (by decide)) (bd (e_step4 _ σ) ?_))
    cases h1 : inR (d x) 0 3 with
    | true =>
      rw [Bool.true_and, ← ih', ← nI_1]
      exact cnd_t (nt rfl) rfl
    | false =>
      rw [Bool.false_and, cond_false]
      exact cnd_f (nf rfl) (bd rfl rfl)
/-- the answer of a VOYAGE -/
def vyR (A : AS) (s : Nat → Nat) (w : Nat) : Nat → Nat → Nat → Nat → Nat → Nat → Nat → Int32
  | 0, _, c, r, met, sum, hi => if w = 0 then nI (popN 40 (dif met (aS A))) else if w = 1 then -9 else if w = 2 then nI sum else if w = 3 then hv hi else nI (aW A * r + c)
  | m + 1, p, c, r, met, sum, hi => bif okS (aW A) (aT A) (aK A) (s p) c r then vyR A s w m (p + 1) (stC (s p) c) (stR (s p) r) (met ||| ovN A (aW A * stR (s p) r + stC (s p) c)) (sum + smN A (aW A * stR (s p) r + stC (s p) c) (aK A)) (max hi (mxN A (aW A * stR (s p) r + stC (s p) c) (aK A))) else if w = 1 then nI p else -100 - nI p
theorem vyC_run {A : AS} {σ : PS} (hW : WF A) (hn : aW A ≠ 0) (hC : RC A σ) {s : Nat → Nat} {n w : Nat} (hn40 : n ≤ 40) (hw4 : w ≤ 4) (hd : ∀ x, x < n → gA σ 18 x = nI (s x) ∧ s x < 4) : ∀ (m f p c r met sum hi : Nat), p + m = n → m < f → c + aK A ≤ aW A → r < aT A → met < 2 ^ (aW A * aT A) → hi ≤ 21 → L_X1_ofVoyage 18 60 f (nI n) (nI w) (nI (aW A * r + c)) (lN met) (nI sum) (hv hi) (nI p) σ = some (vyR A s w m p c r met sum hi, σ) := by
  have hb := wf_b hW
  have hw := wf_n hW hn
  have h5 : w = 0 ∨ w = 1 ∨ w = 2 ∨ w = 3 ∨ w = 4 := by omega
  intro m
  induction m with
  | zero =>
    intro f p c r met sum hi hp hf hc hr hm hh
    obtain ⟨f, rfl⟩ : ∃ f', f = f' + 1 := ⟨f - 1, by omega⟩
    have hm40 : dif met (aS A) < 2 ^ 40 := Nat.lt_of_le_of_lt (dif_le _ _) (Nat.lt_of_lt_of_le hm (Nat.pow_le_pow_right (by decide) (by omega)))
    rw [L_X1_ofVoyage]
    refine cnd_t (by rw [cGe_nI (by omega) (by omega)]; exact dt (by omega)) ?_
    rw [hC.1.2.2.2.2.2.1, dif_L]
    rcases h5 with rfl | rfl | rfl | rfl | rfl
    · exact cnd_t (by decide) (bd (jlbits hm40 σ) rfl)
    · exact cnd_f (by decide) (cnd_t (by decide) rfl)
    · exact cnd_f (by decide) (cnd_f (by decide) (cnd_t (by decide) rfl))
    · exact cnd_f (by decide) (cnd_f (by decide) (cnd_f (by decide) (cnd_t (by decide) rfl)))
    · exact cnd_f (by decide) (cnd_f (by decide) (cnd_f (by decide) (cnd_f (by decide) (cnd_t (by decide) rfl))))
  | succ m ih =>
    intro f p c r met sum hi hp hf hc hr hm hh
    obtain ⟨f, rfl⟩ : ∃ f', f = f' + 1 := ⟨f - 1, by omega⟩
    obtain ⟨d1, d2⟩ := hd p (by omega)
    rw [L_X1_ofVoyage]
    refine cnd_f (by rw [cGe_nI (by omega) (by omega)]; exact df (by omega)) (bd (e_numberAt _ σ (by decide)) ?_)
    dsimp only
    rw [vin_of_lt (by omega) (by decide), tn (by omega), cond_true, d1]
    refine bd (e_next hW hn hC hc hr d2) ?_
    show _ = some (bif okS (aW A) (aT A) (aK A) (s p) c r then vyR A s w m (p + 1) (stC (s p) c) (stR (s p) r) (met ||| ovN A (aW A * stR (s p) r + stC (s p) c)) (sum + smN A (aW A * stR (s p) r + stC (s p) c) (aK A)) (max hi (mxN A (aW A * stR (s p) r + stC (s p) c) (aK A))) else if w = 1 then nI p else -100 - nI p, σ)
    cases ho : okS (aW A) (aT A) (aK A) (s p) c r with
    | false =>
      rw [cond_false, cond_false]
      refine cnd_f (show cNe (-9) (-9) = false from by decide) ?_
      by_cases h1 : w = 1
      · rw [if_pos h1, h1]; exact cnd_f (by decide) rfl
      · rw [if_neg h1]
        exact cnd_t ((cNe_nI (b := 1) (by omega) (by decide)).trans (by rw [df h1]; rfl)) rfl
    | true =>
      obtain ⟨k1, k2⟩ := okS_in ho hc hr
      have hl := cell_lt (W := aW A) (c := stC (s p) c + aK A - 1) (r := stR (s p) r) (T := aT A) (by omega) k2
      have hP : aW A * stR (s p) r + stC (s p) c + aK A ≤ aW A * aT A := by omega
      have hmx := mxN_le hW hP (aK A) (Nat.le_refl _)
      rw [cond_true, cond_true]
      refine cnd_t (ne_m9 (by omega)) (bd (e_seenFrom hW hC (by omega)) (bd (e_tog hW hC hP) (bd (e_mst hW hC hP) ?_)))
      dsimp only
      rw [fb_orL, nI_add, hv_max _ (by omega) _ (by omega), nI_1]
      exact ih f (p + 1) _ _ _ _ _ (by omega) (by omega) k1 k2 (Nat.or_lt_two_pow hm (ov_lt hW k1 k2 hn)) (by omega)
theorem vw_end (A : AS) (σ : PS) {p n w : Nat} (hp : p < 100) (hn : n < 100) (hw4 : w ≤ 4) (x1 s h : Int32) (g : Nat) : L_X5_voyageBy (g + 1) 14 x1 (nI n) (nI w) (nI p) s h (nI (p + 1)) 0 σ = some (if w = 1 then nI p else -100 - nI p, σ) := by
  have a1 : ∀ {X Y : Option (Int32 × PS)}, (bif cNe (nI w) 1 then (bif cLt (nI p) 0 then X else some (-100 - nI p, σ)) else some (nI p, σ)) = some (if w = 1 then nI p else -100 - nI p, σ) := fun {X Y} => by
    by_cases h1 : w = 1
    · rw [if_pos h1, h1]; exact cnd_f (by decide) rfl
    · rw [if_neg h1]
      exact cnd_t ((cNe_nI (b := 1) (by omega) (by decide)).trans (by rw [df h1]; rfl)) (cnd_f (cLt_pos (by omega)) rfl)
  rw [L_X5_voyageBy]
  refine cnd_t (by decide) ?_
  by_cases hq : n ≤ p + 1
  · exact cnd_t (by rw [cGe_nI (by omega) (by omega)]; exact dt hq) (a1 (Y := none))
  · exact cnd_f (by rw [cGe_nI (by omega) (by omega)]; exact df hq) (cnd_t (cGe_p (by omega)) (a1 (Y := none)))
theorem vyM_run {A : AS} (hWA : WF A) (hn : aW A ≠ 0) {s : Nat → Nat} {k i n w : Nat} (hk : k < 4) (hi60 : i + n + 1 ≤ aZ A k) (hn40 : n ≤ 40) (hw4 : w ≤ 4) (hd : ∀ x, x < n → aX A k (i + x) = nI (s x) ∧ s x < 4) : ∀ (m f p c r met sum hi : Nat) (σ : PS), p + m = n → 6 * m + 1 ≤ f → WF (setP A c r (aS A ||| met)) → RM (setP A c r (aS A ||| met)) σ → Kept A σ → met < 2 ^ (aW A * aT A) → hi ≤ 21 → ∃ σ' c' r' S', L_X5_voyageBy f 14 (nI (60 * k + i)) (nI n) (nI w) (-9) (nI sum) (hv hi) (nI p) 0 σ = some (vyR A s w m p c r met sum hi, σ') ∧ RM (setP A c' r' S') σ' ∧ Kept A σ' ∧ eqC σ σ' := by
  have hb := wf_b hWA
  have hw := wf_n hWA hn
  have hz := (hWA.2.2.2 k hk).1
  have h5 : w = 0 ∨ w = 1 ∨ w = 2 ∨ w = 3 ∨ w = 4 := by omega
  intro m
  induction m with
  | zero =>
    intro f p c r met sum hi σ hp hf hW hM hK hm hh
    obtain ⟨f, rfl⟩ : ∃ f', f = f' + 1 := ⟨f - 1, by omega⟩
    have hm40 : aS A ||| met < 2 ^ 40 := S_40 hW
    refine ⟨σ, c, r, _, ?_, hM, hK, eqC.rf⟩
    rw [L_X5_voyageBy]
    refine cnd_t (by decide) (cnd_t (by rw [cGe_nI (by omega) (by omega)]; exact dt (by omega)) ?_)
    rw [hM.1.2.2.2.2.2.2.2]
    rcases h5 with rfl | rfl | rfl | rfl | rfl
    · refine cnd_t (by decide) (cnd_t (by decide) (cnd_f (by decide) (bd (e_bits hm40 σ) ?_)))
      dsimp only
      rw [hK.2.2]
      refine bd (e_bits (S_40 hWA) σ) ?_
      show some (nI (popN 40 (aS A ||| met)) - nI (popN 40 (aS A)), σ) = some (nI (popN 40 (dif met (aS A))), σ)
      rw [popN_or 40 _ _ (by decide), pk_sub (by omega), Nat.add_sub_cancel_left]
    · exact cnd_f (by decide) rfl
    · exact cnd_t (by decide) (cnd_t (by decide) (cnd_t (by decide) (cnd_f (by decide) rfl)))
    · exact cnd_t (by decide) (cnd_t (by decide) (cnd_t (by decide) (cnd_t (by decide) (cnd_f (by decide) rfl))))
    · refine cnd_t (by decide) (cnd_t (by decide) (cnd_t (by decide) (cnd_t (by decide) (cnd_t (by decide) (bd (e_placeOf hM 0) ?_)))))
      rfl
  | succ m ih =>
    intro f p c r met sum hi σ hp hf hW hM hK hm hh
    obtain ⟨g, rfl⟩ : ∃ g, f = (g + aK A + 1) + 1 := ⟨f - aK A - 2, by omega⟩
    obtain ⟨d1, d2⟩ := hd p (by omega)
    have hwB := wf_n hW hn
    obtain ⟨σ1, e1, hK1, hE1, ht, hf2⟩ := st_M hW hn hM hK d2
    have e32 : gA σ 32 (60 * k + i + p) = nI (s p) := by
      rw [← d1, Nat.add_assoc]
      exact (hM.2.2.2.2.2 k hk).2.2 (i + p) (by show i + p + 1 < aZ A k; omega)
    rw [show vyR A s w (m + 1) p c r met sum hi = bif okS (aW A) (aT A) (aK A) (s p) c r then vyR A s w m (p + 1) (stC (s p) c) (stR (s p) r) (met ||| ovN A (aW A * stR (s p) r + stC (s p) c)) (sum + smN A (aW A * stR (s p) r + stC (s p) c) (aK A)) (max hi (mxN A (aW A * stR (s p) r + stC (s p) c) (aK A))) else if w = 1 then nI p else -100 - nI p from rfl]
    cases ho : okS (aW A) (aT A) (aK A) (s p) c r with
    | false =>
      have := hf2 ho
      subst this
      refine ⟨σ1, c, r, _, ?_, hM, hK1, eqC.rf⟩
      rw [L_X5_voyageBy]
      refine cnd_t (by decide) (cnd_f (by rw [cGe_nI (by omega) (by omega)]; exact df (by omega)) (cnd_f (by decide) ?_))
      rw [nI_add, tn (by omega), e32]
      refine cnd_t (vin_of_lt (by omega) (by decide)) (bd e1 (cnd_t (ef ho) ?_))
      have e2 := vin_run (s0 := sum) hW hn hM hh (nI (60 * k + i)) (nI n) (nI w) (nI p) (nI p) (aK A) g 0 (by exact Nat.zero_add _)
      rw [show smN (setP A c r (aS A ||| met)) (aP (setP A c r (aS A ||| met))) 0 = 0 from rfl, show mxN (setP A c r (aS A ||| met)) (aP (setP A c r (aS A ||| met))) 0 = 0 from rfl, Nat.add_zero, Nat.max_zero, nI_0, nI_1] at e2
      refine e2.trans ?_
      obtain ⟨g, rfl⟩ : ∃ g', g = g' + 1 := ⟨g - 1, by omega⟩
      rw [cond_false]
      exact vw_end A σ1 (by omega) (by omega) hw4 _ _ _ g
    | true =>
      obtain ⟨hW2, hM2⟩ := ht ho
      obtain ⟨k1, k2⟩ := okS_in ho hwB.2.2.2.2.2.2.1 hwB.2.2.2.2.2.2.2.1
      have hl := cell_lt (W := aW A) (c := stC (s p) c + aK A - 1) (r := stR (s p) r) (T := aT A) (by have : stC (s p) c + aK A ≤ aW A := k1; omega) k2
      have hP : aW A * stR (s p) r + stC (s p) c + aK A ≤ aW A * aT A := by omega
      have hmx := mxN_le hWA hP (aK A) (Nat.le_refl _)
      rw [Nat.or_assoc] at hW2 hM2
      obtain ⟨σ2, c2, r2, S2, e3, hM3, hK3, hE3⟩ := ih g (p + 1) (stC (s p) c) (stR (s p) r) (met ||| ovN A (aW A * stR (s p) r + stC (s p) c)) (sum + smN A (aW A * stR (s p) r + stC (s p) c) (aK A)) (max hi (mxN A (aW A * stR (s p) r + stC (s p) c) (aK A))) σ1 (by omega) (by omega) hW2 hM2 hK1 (Nat.or_lt_two_pow hm (ov_lt hWA k1 k2 hn)) (by omega)
      refine ⟨σ2, c2, r2, S2, ?_, hM3, hK3, hE1.tr hE3⟩
      rw [cond_true, ← e3, L_X5_voyageBy]
      refine cnd_t (by decide) (cnd_f (by rw [cGe_nI (by omega) (by omega)]; exact df (by omega)) (cnd_f (by decide) ?_))
      rw [nI_add, tn (by omega), e32]
      refine cnd_t (vin_of_lt (by omega) (by decide)) (bd e1 (cnd_f (et ho) ?_))
      have e2 := vin_run (s0 := sum) hW2 hn hM2 hh (nI (60 * k + i)) (nI n) (nI w) (-9) (nI p) (aK A) g 0 (by exact Nat.zero_add _)
      rw [smN_P, smN_P, mxN_P, mxN_P, show smN A (aP (setP A (stC (s p) c) (stR (s p) r) (aS A ||| (met ||| ovN A (aW A * stR (s p) r + stC (s p) c))))) 0 = 0 from rfl, show mxN A (aP (setP A (stC (s p) c) (stR (s p) r) (aS A ||| (met ||| ovN A (aW A * stR (s p) r + stC (s p) c))))) 0 = 0 from rfl, Nat.add_zero, Nat.max_zero, nI_0, nI_1] at e2
      exact e2
theorem smN_F (A : AS) (P : Nat) : ∀ k, smN (setS A 8 0) P k = smN A P k := by
  intro k
  induction k with
  | zero => rfl
  | succ k ih =>
    show smN (setS A 8 0) P k + _ = smN A P k + _
    rw [ih]; rfl
theorem mxN_F (A : AS) (P : Nat) : ∀ k, mxN (setS A 8 0) P k = mxN A P k := by
  intro k
  induction k with
  | zero => rfl
  | succ k ih =>
    show max (mxN (setS A 8 0) P k) _ = max (mxN A P k) _
    rw [ih]; rfl
theorem vyR_F (A : AS) (s : Nat → Nat) (w : Nat) : ∀ m p c r met sum hi, vyR (setS A 8 0) s w m p c r met sum hi = vyR A s w m p c r met sum hi := by
  intro m
  induction m with
  | zero => intro p c r met sum hi; rfl
  | succ m ih =>
    intro p c r met sum hi
    show (bif okS (aW A) (aT A) (aK A) (s p) c r then vyR (setS A 8 0) s w m (p + 1) (stC (s p) c) (stR (s p) r) (met ||| ovN A (aW A * stR (s p) r + stC (s p) c)) (sum + smN (setS A 8 0) (aW A * stR (s p) r + stC (s p) c) (aK A)) (max hi (mxN (setS A 8 0) (aW A * stR (s p) r + stC (s p) c) (aK A))) else _) = bif okS (aW A) (aT A) (aK A) (s p) c r then vyR A s w m (p + 1) (stC (s p) c) (stR (s p) r) (met ||| ovN A (aW A * stR (s p) r + stC (s p) c)) (sum + smN A (aW A * stR (s p) r + stC (s p) c) (aK A)) (max hi (mxN A (aW A * stR (s p) r + stC (s p) c) (aK A))) else _
    rw [ih, smN_F, mxN_F]
theorem pr_voyage (σ : PS) (h : Rel σ) (p0 p1 p2 p3 p4 : Int32) : Pair (F_X4_voyage p0 p1 p2 p3 p4) (F_X5_voyage p0 p1 p2 p3 p4) σ := pair_of h fun A hW => by
  have hb := wf_b hW
  cases hv : vin p0 4 with
  | false =>
    refine pr_ref (v := -1) hW (fun σ hC => ?_) (fun σ hM => ?_)
    · unfold F_X4_voyage
      exact bd (e_sheetOf_n _ hv) rfl
    · unfold F_X5_voyage
      exact bd (e_noSheet p0 σ) (cnd_f (et (by rw [hv]; rfl)) (bd rfl rfl))
  | true =>
  obtain ⟨k, hk, rfl⟩ := vin_ex hv (by decide)
  have hz := hW.2.2.2 k hk
  have en : (!vin (nI k) 4) = false := by rw [hv]; rfl
  cases h1 : inR p1 0 2 with
  | false =>
    refine pr_ref (v := -2) hW (fun σ hC => ?_) (fun σ hM => ?_)
    · unfold F_X4_voyage
      exact bd (e_sheetOf _ hk) (cnd_t (isSh_k hk) (bd (e_isLane p1 _) (cnd_t (ef h1) rfl)))
    · unfold F_X5_voyage
      exact bd (e_noSheet _ σ) (cnd_t (ef en) (bd (e_lane02 p1 σ) (cnd_t (ef h1) (bd rfl rfl))))
  | true =>
  obtain ⟨l, hl, rfl⟩ := inR_ex h1 (by decide)
  cases h3 : inR p3 0 40 with
  | false =>
    refine pr_ref (v := -2) hW (fun σ hC => ?_) (fun σ hM => ?_)
    · unfold F_X4_voyage
      exact bd (e_sheetOf _ hk) (cnd_t (isSh_k hk) (bd (e_isLane _ _) (cnd_f (et h1) (bd (e_within p3 0 40 _) (cnd_t (ef h3) rfl)))))
    · unfold F_X5_voyage
      exact bd (e_noSheet _ σ) (cnd_t (ef en) (bd (e_lane02 _ σ) (cnd_f (et h1) (bd (e_inR p3 0 40 (by decide) (by decide) σ) (cnd_t (ef h3) (bd rfl rfl))))))
  | true =>
  obtain ⟨n, hn40, rfl⟩ := inR_ex h3 (by decide)
  cases h4 : inR p4 0 4 with
  | false =>
    refine pr_ref (v := -2) hW (fun σ hC => ?_) (fun σ hM => ?_)
    · unfold F_X4_voyage
      exact bd (e_sheetOf _ hk) (cnd_t (isSh_k hk) (bd (e_isLane _ _) (cnd_f (et h1) (bd (e_within _ 0 40 _) (cnd_f (et h3) (bd (e_within p4 0 4 _) (cnd_f (nf h4) rfl)))))))
    · unfold F_X5_voyage
      exact bd (e_noSheet _ σ) (cnd_t (ef en) (bd (e_lane02 _ σ) (cnd_f (et h1) (bd (e_inR _ 0 40 (by decide) (by decide) σ) (cnd_f (et h3) (bd (e_inR p4 0 4 (by decide) (by decide) σ) (cnd_f (nf h4) (bd rfl rfl))))))))
  | true =>
  obtain ⟨w, hw4, rfl⟩ := inR_ex h4 (by decide)
  by_cases hn : aW A = 0
  · have hK : aK A = 0 := (wf_K hW).mpr hn
    refine pr_ref (v := -3) hW (fun σ hC => ?_) (fun σ hM => ?_)
    · unfold F_X4_voyage
      exact bd (e_sheetOf _ hk) (cnd_t (isSh_k hk) (bd (e_isLane _ _) (cnd_f (et h1) (bd (e_within _ 0 40 _) (cnd_f (et h3) (bd (e_within _ 0 4 _) (cnd_t (nt h4) (bd (e_exists (A := setS A 8 0) (WF_f hW (by decide)) (RC_f 0 hC)) (cnd_f (nf (show (!decide (aW A = 0)) = false by rw [dt hn]; rfl)) rfl)))))))))
    · unfold F_X5_voyage
      refine bd (e_noSheet _ σ) (cnd_t (ef en) (bd (e_lane02 _ σ) (cnd_f (et h1) (bd (e_inR _ 0 40 (by decide) (by decide) σ) (cnd_f (et h3) (bd (e_inR _ 0 4 (by decide) (by decide) σ) (cnd_t (nt h4) (cnd_f ?_ (bd rfl rfl)))))))))
      dsimp only
      rw [hM.1.2.2.1, hK]; rfl
  have hK : aK A ≠ 0 := fun q => hn ((wf_K hW).mp q)
  refine pr_src hW hk hl (p := p2) (q := nI n) (fb := fun s9 => L_X4_voyage fuelN (nI n) (nI w) (0) s9) (gb := fun s13 => L_X5_voyage fuelN (nI k) p2 (nI n) (nI w) (0) s13) (fun σ hC => ?_) (fun σ hM => ?_) (fun i n2 e1 e2 hz2 => ?_)
  · unfold F_X4_voyage
    exact bd (e_sheetOf _ hk) (cnd_t (isSh_k hk) (bd (e_isLane _ _) (cnd_f (et h1) (bd (e_within _ 0 40 _) (cnd_f (et h3) (bd (e_within _ 0 4 _) (cnd_t (nt h4) (bd (e_exists (A := setS A 8 0) (WF_f hW (by decide)) (RC_f 0 hC)) (cnd_t (nt (show (!decide (aW A = 0)) = true by rw [df hn]; rfl)) rfl)))))))))
  · unfold F_X5_voyage
    refine bd (e_noSheet _ σ) (cnd_t (ef en) (bd (e_lane02 _ σ) (cnd_f (et h1) (bd (e_inR _ 0 40 (by decide) (by decide) σ) (cnd_f (et h3) (bd (e_inR _ 0 4 (by decide) (by decide) σ) (cnd_t (nt h4) (cnd_t ?_ rfl))))))))
    dsimp only
    rw [hM.1.2.2.1]
    exact (cNe_nI (b := 0) (by omega) (by decide)).trans (by rw [df hK]; rfl)
  · have e3 : n2 = n := by
      have := congrArg Int32.toNatClampNeg e2
      rcases Nat.lt_or_ge n2 2147483648 with q | q
      · rw [tn (by omega), tn q] at this; omega
      · omega
    subst e3
    subst e1
    have hd32 : ∀ σ, RM A σ → ∀ x, x < n2 → gA σ 32 (60 * k + i + x) = aX A k (i + x) := fun σ hM x hx => by rw [Nat.add_assoc]; exact (hM.2.2.2.2.2 k hk).2.2 (i + x) (by omega)
    cases ha : allS (fun x => aX A k (i + x)) n2 0 with
    | false =>
      refine ⟨-2, setS A 8 0, WF_f hW (by decide), fun σ hC hd => ⟨σ, ?_, hC, eqM.rf⟩, fun σ hM => ⟨_, ?_, RM_f 0 hM, eqC_sI (by decide)⟩⟩
      · have e := vC_run (w := nI w) (d := fun x => aX A k (i + x)) hn40 hd n2 fuelN 0 (by omega) (by unfold fuelN; omega)
        rw [ha, cond_false, nI_0] at e
        exact e
      · have e := vM_run (w := nI w) (d := fun x => aX A k (i + x)) hn40 hk (by omega) (hd32 σ hM) n2 fuelN 0 (by omega) (by unfold fuelN; omega)
        rw [ha, cond_false, nI_0] at e
        exact e
    | true =>
      have hw := wf_n hW hn
      have hs : ∀ x, x < n2 → aX A k (i + x) = nI (aX A k (i + x)).toNatClampNeg ∧ (aX A k (i + x)).toNatClampNeg < 4 := fun x hx => by
        have := of_decide_eq_true ha x hx (Nat.zero_le _)
        obtain ⟨v, hv3, e⟩ := inR_ex this (by decide)
        have e : aX A k (i + x) = nI v := e
        rw [e, tn (by omega)]
        exact ⟨rfl, by omega⟩
      refine ⟨vyR A (fun x => (aX A k (i + x)).toNatClampNeg) w n2 0 (aC A) (aR A) 0 0 0, setS A 8 0, WF_f hW (by decide), fun σ hC hd => ⟨σ, ?_, hC, eqM.rf⟩, fun σ hM => ?_⟩
      · have e := vC_run (w := nI w) (d := fun x => aX A k (i + x)) hn40 hd n2 fuelN 0 (by omega) (by unfold fuelN; omega)
        rw [ha, cond_true, nI_0] at e
        refine e.trans ?_
        unfold F_X1_ofVoyage
        rw [hC.1.2.2.2.2.1]
        have e2 := vyC_run (A := setS A 8 0) (WF_f hW (by decide)) hn hC (s := fun x => (aX A k (i + x)).toNatClampNeg) hn40 hw4 (fun x hx => ⟨(hd x hx).trans (hs x hx).1, (hs x hx).2⟩) n2 fuelN 0 (aC A) (aR A) 0 0 0 (by omega) (by unfold fuelN; omega) hw.2.2.2.2.2.2.1 hw.2.2.2.2.2.2.2.1 (Nat.two_pow_pos _) (by decide)
        rw [nI_0] at e2
        have e3 : vyR (setS A 8 0) (fun x => (aX A k (i + x)).toNatClampNeg) w n2 0 (aC A) (aR A) 0 0 0 = vyR A (fun x => (aX A k (i + x)).toNatClampNeg) w n2 0 (aC A) (aR A) 0 0 0 := vyR_F A _ w n2 _ _ _ _ _ _
        rw [e3] at e2
        exact bd e2 rfl
      · obtain ⟨σ1, f1, m1, k1, q1⟩ := e_keep hM
        obtain ⟨σ2, c2, r2, S2, f2, m2, k2, q2⟩ := vyM_run hW hn (s := fun x => (aX A k (i + x)).toNatClampNeg) hk hz2 hn40 hw4 hs n2 fuelN 0 (aC A) (aR A) 0 0 0 σ1 (by omega) (by unfold fuelN; omega) (by rw [Nat.or_zero, setP_id]; exact hW) (by rw [Nat.or_zero, setP_id]; exact m1) k1 (Nat.two_pow_pos _) (by decide)
        obtain ⟨σ3, f3, m3, k3, q3⟩ := e_back m2 k2
        refine ⟨sI σ3 1216 (nI 0), ?_, RM_f 0 m3, ((q1.tr q2).tr q3).tr (eqC_sI (by decide))⟩
        have e := vM_run (w := nI w) (d := fun x => aX A k (i + x)) hn40 hk (by omega) (hd32 σ hM) n2 fuelN 0 (by omega) (by unfold fuelN; omega)
        rw [ha, cond_true, nI_0] at e
        refine e.trans (bd f1 (bd (r := F_X5_voyageBy _ _ _ _) (?_ : _ = some (vyR A (fun x => (aX A k (i + x)).toNatClampNeg) w n2 0 (aC A) (aR A) 0 0 0, σ2)) (bd f3 (bd rfl rfl))))
        unfold F_X5_voyageBy
        rw [nI_0] at f2
        exact f2
