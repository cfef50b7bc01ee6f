/-! the pair of begun -/
def taB (A : AS) (d : Nat → Int32) (b P j : Nat) : Bool := decide (∀ k, k < aK A → j ≤ k → (aG A).testBit k = false → nI (tellN (aKd A k) (aSh A k) (aH A (P + k))) = d (b + k))
theorem ta_end {A : AS} {d : Nat → Int32} {b P j : Nat} (h : aK A ≤ j) : taB A d b P j = true := dt fun x h1 h2 => by omega
theorem ta_gone {A : AS} {d : Nat → Int32} {b P j : Nat} (h : (aG A).testBit j = true) : taB A d b P j = taB A d b P (j + 1) := by
  unfold taB
  rw [decide_eq_decide]
  constructor
  · intro q x hx hj; exact q x hx (by omega)
  · intro q x hx hj hg
    by_cases e : x = j
    · rw [e, h] at hg; cases hg
    · exact q x hx (by omega) hg
theorem ta_succ {A : AS} {d : Nat → Int32} {b P j : Nat} (hj : j < aK A) (h : (aG A).testBit j = false) : taB A d b P j = (decide (nI (tellN (aKd A j) (aSh A j) (aH A (P + j))) = d (b + j)) && taB A d b P (j + 1)) := by
  unfold taB
  by_cases h1 : nI (tellN (aKd A j) (aSh A j) (aH A (P + j))) = d (b + j)
  · rw [dt h1, Bool.true_and, decide_eq_decide]
    constructor
    · intro q x hx hj; exact q x hx (by omega)
    · intro q x hx hj hg
      by_cases e : x = j
      · rw [e]; exact h1
      · exact q x hx (by omega) hg
  · rw [df h1, Bool.false_and]
    exact df fun q => h1 (q j hj (Nat.le_refl _) h)
theorem taC_run {A : AS} {σ : PS} (hW : WF A) (hC : RC A σ) {d : Nat → Int32} {b P N : Nat} (hP : P + aK A ≤ aW A * aT A) (hN : N ≤ 60) (hb : b + aK A ≤ N) (hd : ∀ x, x < N → gA σ 18 x = d x) : ∀ (m f j : Nat), j + m = aK A → m < f → L_X1_isToldAt 18 60 f (nI P) (nI b) (nI j) σ = some (bI (taB A d b P j), σ) := by
  have hb := wf_b hW
  intro m
  induction m with
  | zero =>
    intro f j hj hf
    obtain ⟨f, rfl⟩ : ∃ f', f = f' + 1 := ⟨f - 1, by omega⟩
    rw [L_X1_isToldAt, ta_end (by omega)]
    exact cnd_t (by rw [hC.1.2.2.1, cGe_nI (by omega) (by omega)]; exact dt (by omega)) rfl
  | succ m ih =>
    intro f j hj hf
    obtain ⟨f, rfl⟩ : ∃ f', f = f' + 1 := ⟨f - 1, by omega⟩
    have ih' := ih f (j + 1) (by omega) (by omega)
    rw [L_X1_isToldAt]
    refine cnd_f (by rw [hC.1.2.2.1, cGe_nI (by omega) (by omega)]; exact df (by omega)) (bd (e_isGone hW hC (by omega)) ?_)
    cases hg : (aG A).testBit j with
    | true =>
      rw [ta_gone hg]
      refine cnd_t (nt rfl) ?_
      rw [nI_1]; exact ih'
    | false =>
      rw [ta_succ (by omega) hg]
      refine cnd_f (nf rfl) ?_
      rw [nI_add, nI_add]
      refine bd (e_toldOf hW hC (by omega) (by omega)) (bd (e_numberAt _ σ (by decide)) ?_)
      dsimp only
      rw [vin_of_lt (by omega) (by decide), tn (by omega), cond_true, hd _ (by omega), nI_1]
      unfold cEq
      by_cases h1 : nI (tellN (aKd A j) (aSh A j) (aH A (P + j))) = d (b + j)
      · rw [dt h1, Bool.true_and]; exact ih'
      · rw [df h1]; rfl
/-- rows of numbers told from a place on -/
def bgR (A : AS) (d : Nat → Int32) (s : Nat) : Nat → Nat → Nat → Nat → Bool
  | 0, _, _, _ => true
  | m + 1, x, c, r => if x = 0 then taB A d 0 (aW A * r + c) 0 && bgR A d s m 1 c r else okS (aW A) (aT A) (aK A) s c r && (taB A d (x * aK A) (aW A * stR s r + stC s c) 0 && bgR A d s m (x + 1) (stC s c) (stR s r))
theorem bgC_run {A : AS} {σ : PS} (hW : WF A) (hn : aW A ≠ 0) (hC : RC A σ) {d : Nat → Int32} {s n : Nat} (hs : s < 4) (hn6 : n ≤ 6) (hd : ∀ x, x < n * aK A → gA σ 18 x = d x) : ∀ (m f x c r : Nat), x + m = n → m < f → c + aK A ≤ aW A → r < aT A → L_X1_isToldFrom 18 60 f (nI n) (nI s) (nI (aW A * r + c)) (nI x) σ = some (bI (bgR A d s m x c r), σ) := by
  have hb := wf_b hW
  have hw := wf_n hW hn
  have hN : n * aK A ≤ 24 := Nat.mul_le_mul hn6 hb.2.2.1
  intro m
  induction m with
  | zero =>
    intro f x c r hx hf hc hr
    obtain ⟨f, rfl⟩ : ∃ f', f = f' + 1 := ⟨f - 1, by omega⟩
    rw [L_X1_isToldFrom]
    exact cnd_t (by rw [cGe_nI (by omega) (by omega)]; exact dt (by omega)) rfl
  | succ m ih =>
    intro f x c r hx hf hc hr
    obtain ⟨f, rfl⟩ : ∃ f', f = f' + 1 := ⟨f - 1, by omega⟩
    have hxK : x * aK A + aK A ≤ n * aK A := by
      rw [← Nat.succ_mul]; exact Nat.mul_le_mul_right _ (by omega)
    have hta : ∀ P, P + aK A ≤ aW A * aT A → F_X1_isToldAt (nI P) 18 60 (nI x * gI σ 645) σ = some (bI (taB A d (x * aK A) P 0), σ) := fun P hP => by
      unfold F_X1_isToldAt
      rw [hC.1.2.2.1, pk_mul]
      have := taC_run hW hC (b := x * aK A) hP (by omega) hxK hd (aK A) fuelN 0 (by omega) (by unfold fuelN; omega)
      rw [nI_0] at this
      exact this
    rw [L_X1_isToldFrom, bgR]
    refine cnd_f (by rw [cGe_nI (by omega) (by omega)]; exact df (by omega)) ?_
    by_cases h0 : x = 0
    · subst h0
      have hl := cell_lt (W := aW A) (c := c + aK A - 1) (r := r) (T := aT A) (by omega) hr
      rw [if_pos rfl]
      refine cnd_t (by decide) (cnd_f ?_ ?_)
      · have := ne_m9 (n := aW A * r + c) (by omega)
        unfold cNe at this
        unfold cEq
        cases hq : decide (nI (aW A * r + c) = -9) with
        | false => rfl
        | true => rw [hq] at this; cases this
      · refine bd (hta _ (by omega)) ?_
        rw [Nat.zero_mul]
        cases taB A d 0 (aW A * r + c) 0 with
        | false => exact cnd_f (nf rfl) rfl
        | true =>
          refine cnd_t (nt rfl) ?_
          rw [nI_1, Bool.true_and]
          exact ih f 1 c r (by omega) (by omega) hc hr
    · rw [if_neg h0]
      refine cnd_f ((cLe_nI (b := 0) (by omega) (by decide)).trans (df (by omega))) (bd (e_next hW hn hC hc hr hs) ?_)
      cases ho : okS (aW A) (aT A) (aK A) s c r with
      | false =>
        rw [Bool.false_and]
        exact cnd_t (show cEq (-9) (-9) = true from by decide) rfl
      | true =>
        obtain ⟨k1, k2⟩ := okS_in ho hc hr
        have hl := cell_lt (W := aW A) (c := stC s c + aK A - 1) (r := stR s r) (T := aT A) (by omega) k2
        rw [Bool.true_and]
        refine cnd_f (show cEq (nI (aW A * stR s r + stC s c)) (-9) = false from ?_) ?_
        · have := ne_m9 (n := aW A * stR s r + stC s c) (by omega)
          unfold cNe at this
          unfold cEq
          cases hq : decide (nI (aW A * stR s r + stC s c) = -9) with
          | false => rfl
          | true => rw [hq] at this; cases this
        · refine bd (hta _ (by omega)) ?_
          cases taB A d (x * aK A) (aW A * stR s r + stC s c) 0 with
          | false => exact cnd_f (nf rfl) rfl
          | true =>
            refine cnd_t (nt rfl) ?_
            dsimp only
            rw [nI_1, Bool.true_and, cond_true]
            exact ih f (x + 1) _ _ (by omega) (by omega) k1 k2
