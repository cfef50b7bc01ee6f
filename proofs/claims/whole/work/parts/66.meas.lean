/-! way: how the model measures -/
def Dst (M cr c r : Nat) : Nat := dS M c + abd r cr
def nxS (M cr c r : Nat) : Nat := if cr < r then 0 else if c < tgS M c then 1 else if r < cr then 2 else 3
theorem st_0 (c r : Nat) : stC 0 c = c ∧ stR 0 r = r - 1 := ⟨rfl, rfl⟩
theorem st_1 (c r : Nat) : stC 1 c = c + 1 ∧ stR 1 r = r := ⟨rfl, rfl⟩
theorem st_2 (c r : Nat) : stC 2 c = c ∧ stR 2 r = r + 1 := ⟨rfl, rfl⟩
theorem st_3 (c r : Nat) : stC 3 c = c - 1 ∧ stR 3 r = r := ⟨rfl, rfl⟩
theorem ok_0 (W T K c r : Nat) : okS W T K 0 c r = decide (0 < r) := rfl
theorem ok_1 (W T K c r : Nat) : okS W T K 1 c r = decide (c + K < W) := rfl
theorem ok_2 (W T K c r : Nat) : okS W T K 2 c r = decide (r + 1 < T) := rfl
theorem ok_3 (W T K c r : Nat) : okS W T K 3 c r = decide (0 < c) := rfl
theorem nb_lip {W T K M cr c r s : Nat} (hW : W ≤ 6) (hK : 1 ≤ K) (hM : M < 64) (h0 : M ≠ 0) (hs : s < 4) (hc : c + K ≤ W) (ho : okS W T K s c r = true) : Dst M cr c r ≤ Dst M cr (stC s c) (stR s r) + 1 := by
  have h4 : s = 0 ∨ s = 1 ∨ s = 2 ∨ s = 3 := by omega
  unfold Dst abd
  rcases h4 with rfl | rfl | rfl | rfl
  · rw [(st_0 c r).1, (st_0 c r).2]
    have := of_decide_eq_true ho
    omega
  · have := of_decide_eq_true ho
    have := ds_2 M hM c (by omega) h0
    rw [(st_1 c r).1, (st_1 c r).2]
    omega
  · rw [(st_2 c r).1, (st_2 c r).2]
    omega
  · have := of_decide_eq_true ho
    obtain ⟨c, rfl⟩ : ∃ c', c = c' + 1 := ⟨c - 1, by omega⟩
    have := ds_2 M hM c (by omega) h0
    rw [(st_3 (c + 1) r).1, (st_3 (c + 1) r).2, Nat.add_sub_cancel]
    omega
theorem nx_ok {W T K M cr c r : Nat} (hW : W ≤ 6) (hK : 1 ≤ K) (hM : M < 64) (h0 : M ≠ 0) (hMW : ∀ t, M.testBit t = true → t + K ≤ W) (hc : c + K ≤ W) (hr : r < T) (hcr : cr < T) (hd : 0 < Dst M cr c r) : nxS M cr c r < 4 ∧ okS W T K (nxS M cr c r) c r = true ∧ Dst M cr (stC (nxS M cr c r) c) (stR (nxS M cr c r) r) + 1 = Dst M cr c r := by
  obtain ⟨t1, t2⟩ := ds_1 M hM c (by omega) h0
  have t3 := hMW _ t2
  unfold Dst at hd ⊢
  unfold abd at t1 hd ⊢
  unfold nxS
  by_cases h1 : cr < r
  · rw [if_pos h1, (st_0 c r).1, (st_0 c r).2, ok_0]
    exact ⟨by decide, dt (by omega), by omega⟩
  · rw [if_neg h1]
    by_cases h2 : c < tgS M c
    · have := ds_3 M hM c (by omega) h0 h2
      rw [if_pos h2, (st_1 c r).1, (st_1 c r).2, ok_1]
      exact ⟨by decide, dt (by omega), by omega⟩
    · rw [if_neg h2]
      by_cases h3 : r < cr
      · rw [if_pos h3, (st_2 c r).1, (st_2 c r).2, ok_2]
        exact ⟨by decide, dt (by omega), by omega⟩
      · rw [if_neg h3, ok_3]
        obtain ⟨c, rfl⟩ : ∃ c', c = c' + 1 := ⟨c - 1, by omega⟩
        have := ds_4 M hM c (by omega) h0 (by omega)
        rw [(st_3 (c + 1) r).1, (st_3 (c + 1) r).2, Nat.add_sub_cancel]
        exact ⟨by decide, dt (by omega), by omega⟩
theorem nx_least {W T K M cr c r s : Nat} (hW : W ≤ 6) (hK : 1 ≤ K) (hM : M < 64) (h0 : M ≠ 0) (hc : c + K ≤ W) (hs : s < nxS M cr c r) : ¬ (okS W T K s c r = true ∧ Dst M cr (stC s c) (stR s r) + 1 = Dst M cr c r) := by
  rintro ⟨ho, hd⟩
  unfold Dst abd at hd
  unfold nxS at hs
  by_cases h1 : cr < r
  · rw [if_pos h1] at hs; omega
  · rw [if_neg h1] at hs
    have a0 : s ≠ 0 := by
      rintro rfl
      have := of_decide_eq_true ho
      rw [(st_0 c r).1, (st_0 c r).2] at hd
      omega
    by_cases h2 : c < tgS M c
    · rw [if_pos h2] at hs; omega
    · rw [if_neg h2] at hs
      have a1 : s ≠ 1 := by
        rintro rfl
        have := of_decide_eq_true ho
        rw [(st_1 c r).1, (st_1 c r).2] at hd
        have := ds_5 M hM c (by omega) h0 (by omega)
        omega
      by_cases h3 : r < cr
      · rw [if_pos h3] at hs; omega
      · rw [if_neg h3] at hs
        have a2 : s = 2 := by omega
        subst a2
        rw [(st_2 c r).1, (st_2 c r).2] at hd
        omega
def Fr26 (σ σ' : PS) : Prop := (∀ z, gI σ' z = gI σ z) ∧ (∀ z, gL σ' z = gL σ z) ∧ ∀ a, a ≠ 26 → ∀ i, gA σ' a i = gA σ a i
theorem Fr26.rf {σ : PS} : Fr26 σ σ := ⟨fun _ => rfl, fun _ => rfl, fun _ _ _ => rfl⟩
theorem Fr26.tr {a b c : PS} (h : Fr26 a b) (h2 : Fr26 b c) : Fr26 a c := ⟨fun z => (h2.1 z).trans (h.1 z), fun z => (h2.2.1 z).trans (h.2.1 z), fun z q i => (h2.2.2 z q i).trans (h.2.2 z q i)⟩
theorem Fr26.sA {σ : PS} (i : Nat) (v : Int32) : Fr26 σ (sA σ 26 i v) := ⟨fun _ => rfl, fun _ => rfl, fun a q j => by rw [gA_sA, if_neg q]⟩
theorem Fr26.eqC {σ σ' : PS} (h : Fr26 σ σ') : eqC σ σ' := ⟨fun z _ => h.1 z, fun z _ => h.2.1 z, fun a q i => h.2.2 a (by omega) i⟩
theorem RM_fr {A : AS} {σ σ' : PS} (h : Fr26 σ σ') (hM : RM A σ) : RM A σ' := by
  obtain ⟨h1, h2, h3⟩ := h
  obtain ⟨⟨a1, a2, a3, a4, a5, a6, a7, a8⟩, ⟨b1, b2⟩, ⟨c1, c2⟩, d1, d2, d3⟩ := hM
  refine ⟨⟨?_, ?_, ?_, ?_, ?_, ?_, ?_, ?_⟩, ⟨fun i hi => ?_, fun k hk => ?_⟩, ⟨?_, fun i hi => ?_⟩, ?_, ?_, fun k hk => ?_⟩
  · rw [h1]; exact a1
  · rw [h1]; exact a2
  · rw [h1]; exact a3
  · rw [h1]; exact a4
  · rw [h1]; exact a5
  · rw [h1]; exact a6
  · rw [h1]; exact a7
  · rw [h2]; exact a8
  · rw [h3 _ (by omega)]; exact b1 i hi
  · rw [h3 _ (by omega), h3 _ (by omega)]; exact b2 k hk
  · rw [h1]; exact c1
  · rw [h3 _ (by omega), h3 _ (by omega), h3 _ (by omega)]; exact c2 i hi
  · rw [h1]; exact d1
  · rw [h1]; exact d2
  · obtain ⟨e1, e2, e3⟩ := d3 k hk
    exact ⟨by rw [h3 _ (by omega)]; exact e1, by rw [h3 _ (by omega)]; exact e2, fun i hi => by rw [h3 _ (by omega)]; exact e3 i hi⟩
theorem ms_in {A : AS} (hW : WF A) (hn : aW A ≠ 0) {P : Nat → Nat → PS → Prop} {x1 x2 : Int32} (hstep : ∀ r c σ f, r < aT A → c + aK A ≤ aW A → RM A σ → P r c σ → ∃ σ', L_X5_measures (f + 1) 21 x1 x2 (nI r) (nI c) σ = L_X5_measures f 21 x1 x2 (nI r) (nI (c + 1)) σ' ∧ P r (c + 1) σ' ∧ Fr26 σ σ') {r : Nat} (hr : r < aT A) : ∀ (j g c : Nat) (σ : PS), c + j = aW A - aK A + 1 → RM A σ → P r c σ → ∃ σ', L_X5_measures (g + j + 1) 21 x1 x2 (nI r) (nI c) σ = L_X5_measures g 10 x1 x2 (nI (r + 1)) 0 σ' ∧ P r (aW A - aK A + 1) σ' ∧ Fr26 σ σ' := by
  have hb := wf_b hW
  have hw := wf_n hW hn
  intro j
  induction j with
  | zero =>
    intro g c σ hc hM hP
    refine ⟨σ, ?_, by rw [show aW A - aK A + 1 = c from by omega]; exact hP, Fr26.rf⟩
    rw [show g + 0 + 1 = g + 1 from rfl, L_X5_measures]
    refine cnd_f (by decide) (cnd_f (by decide) (cnd_t (by decide) (cnd_t ?_ ?_)))
    · rw [hM.1.1, hM.1.2.2.1, pk_sub (by omega), cGt_nI (by omega) (by omega)]; exact dt (by omega)
    · rw [nI_1]
  | succ j ih =>
    intro g c σ hc hM hP
    obtain ⟨σ1, e1, p1, f1⟩ := hstep r c σ (g + j + 1) hr (by omega) hM hP
    obtain ⟨σ2, e2, p2, f2⟩ := ih g (c + 1) σ1 (by omega) (RM_fr f1 hM) p1
    exact ⟨σ2, (show L_X5_measures (g + (j + 1) + 1) 21 x1 x2 (nI r) (nI c) σ = _ from e1).trans e2, p2, f1.tr f2⟩
theorem ms_rows {A : AS} (hW : WF A) (hn : aW A ≠ 0) {P : Nat → Nat → PS → Prop} {x1 x2 : Int32} (hstep : ∀ r c σ f, r < aT A → c + aK A ≤ aW A → RM A σ → P r c σ → ∃ σ', L_X5_measures (f + 1) 21 x1 x2 (nI r) (nI c) σ = L_X5_measures f 21 x1 x2 (nI r) (nI (c + 1)) σ' ∧ P r (c + 1) σ' ∧ Fr26 σ σ') (hP : ∀ r σ, P r (aW A - aK A + 1) σ → P (r + 1) 0 σ) : ∀ (m f r : Nat) (σ : PS), r + m = aT A → 9 * m + 1 ≤ f → RM A σ → P r 0 σ → ∃ g σ', f ≤ g + 9 * m + 1 ∧ L_X5_measures f 10 x1 x2 (nI r) 0 σ = L_X5_measures g 2 x1 (x2 + 1) 0 0 σ' ∧ P (aT A) 0 σ' ∧ Fr26 σ σ' := by
  have hb := wf_b hW
  have hw := wf_n hW hn
  intro m
  induction m with
  | zero =>
    intro f r σ hr hf hM hP
    obtain ⟨f, rfl⟩ : ∃ f', f = f' + 1 := ⟨f - 1, by omega⟩
    refine ⟨f, σ, by omega, ?_, by rw [show aT A = r from by omega]; exact hP, Fr26.rf⟩
    rw [L_X5_measures]
    refine cnd_f (by decide) (cnd_t (by decide) (cnd_t ?_ rfl))
    rw [hM.1.2.1, cGe_nI (by omega) (by omega)]; exact dt (by omega)
  | succ m ih =>
    intro f r σ hr hf hM h1
    obtain ⟨g, rfl⟩ : ∃ g, f = (g + (aW A - aK A + 1) + 1) + 1 := ⟨f - (aW A - aK A + 1) - 2, by omega⟩
    obtain ⟨σ1, e1, p1, f1⟩ := ms_in hW hn hstep (r := r) (by omega) (aW A - aK A + 1) g 0 σ (by omega) hM h1
    obtain ⟨g2, σ2, hg, e2, p2, f2⟩ := ih g (r + 1) σ1 (by omega) (by omega) (RM_fr f1 hM) (hP r σ1 p1)
    refine ⟨g2, σ2, by omega, ?_, p2, f1.tr f2⟩
    rw [← e2, ← e1, L_X5_measures]
    refine cnd_f (by decide) (cnd_t (by decide) (cnd_f ?_ ?_))
    · rw [hM.1.2.1, cGe_nI (by omega) (by omega)]; exact df (by omega)
    · rw [nI_0]
/-! is a looker over the cell -/
def ioR (A : AS) (b cell : Nat) : Nat → Nat → Bool
  | 0, _ => false
  | m + 1, j => (bif (aG A).testBit j then false else decide (b + j = cell)) || ioR A b cell m (j + 1)
theorem io_iff (A : AS) (b cell : Nat) : ∀ m j, ioR A b cell m j = true ↔ ∃ k, j ≤ k ∧ k < j + m ∧ (aG A).testBit k = false ∧ b + k = cell := by
  intro m
  induction m with
  | zero =>
    intro j
    constructor
    · intro h; cases h
    · rintro ⟨k, h1, h2, -⟩; omega
  | succ m ih =>
    intro j
    show ((bif (aG A).testBit j then false else decide (b + j = cell)) || ioR A b cell m (j + 1)) = true ↔ _
    rw [Bool.or_eq_true, ih]
    constructor
    · rintro (h | ⟨k, h1, h2, h3⟩)
      · cases hg : (aG A).testBit j with
        | true => rw [hg] at h; cases h
        | false => rw [hg] at h; exact ⟨j, Nat.le_refl _, by omega, hg, of_decide_eq_true h⟩
      · exact ⟨k, by omega, by omega, h3⟩
    · rintro ⟨k, h1, h2, h3, h4⟩
      by_cases e : k = j
      · left
        rw [← e, h3]
        exact dt h4
      · exact Or.inr ⟨k, by omega, by omega, h3, h4⟩
theorem io_run {A : AS} {σ : PS} (hW : WF A) (hM : RM A σ) {c r cell : Nat} (hcell : cell < 1000) (hcr : aW A * r + c < 1000) : ∀ (m f j : Nat) (t : Bool), j + m = aK A → m < f → L_X5_isOver f (nI c) (nI r) (nI cell) (bI t) (nI j) σ = some (bI (t || ioR A (aW A * r + c) cell m j), σ) := by
  have hb := wf_b hW
  intro m
  induction m with
  | zero =>
    intro f j t hj hf
    obtain ⟨f, rfl⟩ : ∃ f', f = f' + 1 := ⟨f - 1, by omega⟩
    rw [L_X5_isOver, show ioR A (aW A * r + c) cell 0 j = false from rfl, Bool.or_false]
    exact cnd_t (by rw [hM.1.2.2.1, cGe_nI (by omega) (by omega)]; exact dt (by omega)) (cnd_t (okb_bI t) rfl)
  | succ m ih =>
    intro f j t hj hf
    obtain ⟨f, rfl⟩ : ∃ f', f = f' + 1 := ⟨f - 1, by omega⟩
    rw [L_X5_isOver, show ioR A (aW A * r + c) cell (m + 1) j = ((bif (aG A).testBit j then false else decide (aW A * r + c + j = cell)) || ioR A (aW A * r + c) cell m (j + 1)) from rfl]
    refine cnd_f (by rw [hM.1.2.2.1, cGe_nI (by omega) (by omega)]; exact df (by omega)) ?_
    cases t with
    | true =>
      refine cnd_t (nt rfl) ?_
      rw [nI_1, Bool.true_or]
      exact (ih f (j + 1) true (by omega) (by omega)).trans (by rw [Bool.true_or])
    | false =>
      refine cnd_f (nf rfl) ?_
      rw [hM.1.2.2.2.2.2.2.1, Bool.false_or]
      refine bd (e_isIn hW (by omega)) ?_
      cases hg : (aG A).testBit j with
      | true =>
        refine cnd_t (nt rfl) ?_
        rw [nI_1, cond_true, Bool.false_or]
        exact (ih f (j + 1) false (by omega) (by omega)).trans (by rw [Bool.false_or])
      | false =>
        refine cnd_f (nf rfl) ?_
        dsimp only
        rw [hM.1.1, pk_mul, nI_add, nI_add, cNe_nI (by omega) (by omega), nI_1, cond_false]
        by_cases q : aW A * r + c + j = cell
        · rw [dt q, Bool.true_or]
          exact (ih f (j + 1) true (by omega) (by omega)).trans (by rw [Bool.true_or])
        · rw [df q, Bool.false_or]
          exact (ih f (j + 1) false (by omega) (by omega)).trans (by rw [Bool.false_or])
theorem e_isOver {A : AS} {σ : PS} (hW : WF A) (hn : aW A ≠ 0) (hM : RM A σ) {c r cc cr : Nat} (hc : c + aK A ≤ aW A) (hr : r < aT A) (hcc : cc < aW A) (hcr : cr < aT A) : F_X5_isOver (nI c) (nI r) (nI (aW A * cr + cc)) σ = some (bI (decide (mM (aW A) (aK A) (aG A) cc ≠ 0 ∧ Dst (mM (aW A) (aK A) (aG A) cc) cr c r = 0)), σ) := by
  have hb := wf_b hW
  have hw := wf_n hW hn
  have l1 := cell_lt (W := aW A) (c := cc) (r := cr) (T := aT A) hcc hcr
  have l2 := cell_lt (W := aW A) (c := c) (r := r) (T := aT A) (by omega) hr
  have e := io_run hW hM (c := c) (r := r) (cell := aW A * cr + cc) (by omega) (by omega) (aK A) fuelN 0 false (by omega) (by unfold fuelN; omega)
  rw [Bool.false_or, nI_0] at e
  have hq : ioR A (aW A * r + c) (aW A * cr + cc) (aK A) 0 = decide (mM (aW A) (aK A) (aG A) cc ≠ 0 ∧ Dst (mM (aW A) (aK A) (aG A) cc) cr c r = 0) := by
    rw [Bool.eq_iff_iff, io_iff, decide_eq_true_eq]
    have hin : inS (aW A) (aK A) (aG A) cc c = true ↔ mM (aW A) (aK A) (aG A) cc ≠ 0 ∧ dS (mM (aW A) (aK A) (aG A) cc) c = 0 := by
      rw [← mM_b _ _ _ _ (show c < 6 by omega), ds_6 _ (mM_lt _ _ _ _) c (by omega), Bool.and_eq_true, Bool.not_eq_true', decide_eq_true_eq, decide_eq_false_iff_not]
    constructor
    · rintro ⟨k, -, hk, hg, he⟩
      rw [Nat.add_assoc] at he
      have h1 : c + k = cc := by
        have := congrArg (· % aW A) he
        rwa [q_mod (by omega), q_mod hcc] at this
      have h2 : r = cr := by
        have := congrArg (· / aW A) he
        rwa [q_div (by omega), q_div hcc] at this
      have h3 : inS (aW A) (aK A) (aG A) cc c = true := by
        unfold inS
        rw [ble_d, ble_d, blt_d, dt hc, dt (show c ≤ cc by omega), dt (show cc - c < aK A by omega), show cc - c = k from by omega, hg]; rfl
      obtain ⟨z1, z2⟩ := hin.mp h3
      exact ⟨z1, by unfold Dst abd; omega⟩
    · rintro ⟨z1, z2⟩
      unfold Dst abd at z2
      have h3 := hin.mpr ⟨z1, by omega⟩
      unfold inS at h3
      rw [ble_d, ble_d, blt_d, Bool.and_eq_true, Bool.and_eq_true, Bool.and_eq_true, Bool.not_eq_true', decide_eq_true_eq, decide_eq_true_eq, decide_eq_true_eq] at h3
      obtain ⟨⟨⟨a1, a2⟩, a3⟩, a4⟩ := h3
      refine ⟨cc - c, Nat.zero_le _, by omega, a4, ?_⟩
      rw [show r = cr from by omega]
      omega
  rw [hq] at e
  exact e
