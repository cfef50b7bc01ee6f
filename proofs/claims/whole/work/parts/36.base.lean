/-! numbers, and what the small methods answer -/
theorem cNe_bI (b : Bool) : cNe (bI b) 0 = b := by cases b <;> decide
theorem cEq_bI (b : Bool) : cEq (bI b) 0 = !b := by cases b <;> decide
theorem okb_bI (b : Bool) : okb (bI b) = true := by cases b <;> decide
theorem bI_t : bI true = 1 := rfl
theorem bI_f : bI false = 0 := rfl
theorem p_cases (p : Int32) : p < 0 ∨ ∃ j, j < 2147483648 ∧ p = nI j := by
  by_cases h : p < 0
  · exact Or.inl h
  · exact Or.inr (nI_of h)
theorem cLt_nI {a b : Nat} (ha : a < 2147483648) (hb : b < 2147483648) : cLt (nI a) (nI b) = decide (a < b) := by unfold cLt; rw [decide_eq_decide]; exact nI_ltI ha hb
theorem cGt_nI {a b : Nat} (ha : a < 2147483648) (hb : b < 2147483648) : cGt (nI a) (nI b) = decide (b < a) := by unfold cGt; rw [decide_eq_decide]; exact nI_ltI hb ha
theorem cGe_nI {a b : Nat} (ha : a < 2147483648) (hb : b < 2147483648) : cGe (nI a) (nI b) = decide (b ≤ a) := by unfold cGe; rw [decide_eq_decide]; exact nI_leI hb ha
theorem cLe_nI {a b : Nat} (ha : a < 2147483648) (hb : b < 2147483648) : cLe (nI a) (nI b) = decide (a ≤ b) := by unfold cLe; rw [decide_eq_decide]; exact nI_leI ha hb
theorem cEq_nI {a b : Nat} (ha : a < 2147483648) (hb : b < 2147483648) : cEq (nI a) (nI b) = decide (a = b) := by unfold cEq; rw [decide_eq_decide]; exact nI_eq ha hb
theorem cNe_nI {a b : Nat} (ha : a < 2147483648) (hb : b < 2147483648) : cNe (nI a) (nI b) = !decide (a = b) := by unfold cNe; rw [decide_eq_decide.mpr (nI_eq ha hb)]
theorem cLt_neg {p : Int32} (h : p < 0) : cLt p 0 = true := decide_eq_true h
theorem cLt_pos {j : Nat} (h : j < 2147483648) : cLt (nI j) 0 = false := decide_eq_false (nI_pos h)
theorem vin_neg {p : Int32} {N : Nat} (h : p < 0) : vin p N = false := by unfold vin; rw [decide_eq_true h]; rfl
theorem vin_pos {j N : Nat} (h : j < 2147483648) : vin (nI j) N = decide (j < N) := by
  unfold vin
  rw [decide_eq_false (nI_pos h), nI_clamp h, Bool.false_or]
  cases hb : Nat.ble N j with
  | true =>
    have := Nat.le_of_ble_eq_true hb
    rw [decide_eq_false (by omega)]
    rfl
  | false =>
    have : ¬ N ≤ j := fun q => by rw [Nat.ble_eq_true_of_le q] at hb; cases hb
    rw [decide_eq_true (by omega)]
    rfl
theorem vin_of_lt {j N : Nat} (h : j < N) (hN : N < 2147483648) : vin (nI j) N = true := by rw [vin_pos (by omega)]; exact decide_eq_true h
theorem tn {j : Nat} (h : j < 2147483648) : (nI j).toNatClampNeg = j := nI_clamp h
theorem ofN (n : Nat) : Int32.ofNat n = nI n := rfl
theorem e_numberAt {a N : Nat} (p : Int32) (σ : PS) (hN : N < 2147483648) : F_X4_numberAt a N p σ = some (bif vin p N then gA σ a p.toNatClampNeg else 0, σ) := by
  unfold F_X4_numberAt
  rcases p_cases p with h | ⟨j, hj, rfl⟩
  · rw [cLt_neg h, vin_neg h]; rfl
  · rw [cLt_pos hj, vin_pos hj, ofN, cGe_nI hj hN]
    by_cases hl : j < N
    · rw [decide_eq_true hl, decide_eq_false (by omega)]; rfl
    · rw [decide_eq_false hl, decide_eq_true (by omega)]; rfl
theorem e_setNumber {a N : Nat} (p x : Int32) (σ : PS) (hN : N < 2147483648) : F_X4_setNumber a N p x σ = some ((), bif vin p N then sA σ a p.toNatClampNeg x else σ) := by
  unfold F_X4_setNumber
  rcases p_cases p with h | ⟨j, hj, rfl⟩
  · rw [cLt_neg h, vin_neg h]; rfl
  · rw [cLt_pos hj, vin_pos hj, ofN, cGe_nI hj hN]
    by_cases hl : j < N
    · rw [decide_eq_true hl, decide_eq_false (by omega)]; rfl
    · rw [decide_eq_false hl, decide_eq_true (by omega)]; rfl
/-- p is one of a .. b -/
def inR (p : Int32) (a b : Nat) : Bool := !decide (p < nI a) && !decide (nI b < p)
theorem inR_neg {p : Int32} {b : Nat} (h : p < 0) : inR p 0 b = false := by unfold inR; rw [nI_0, decide_eq_true h]; rfl
theorem inR_pos {j a b : Nat} (h : j < 2147483648) (ha : a < 2147483648) (hb : b < 2147483648) : inR (nI j) a b = (decide (a ≤ j) && decide (j ≤ b)) := by
  unfold inR
  have e1 : decide (nI j < nI a) = decide (j < a) := decide_eq_decide.mpr (nI_ltI h ha)
  have e2 : decide (nI b < nI j) = decide (b < j) := decide_eq_decide.mpr (nI_ltI hb h)
  rw [e1, e2]
  by_cases h1 : a ≤ j <;> by_cases h2 : j ≤ b <;> simp [h1, h2] <;> omega
theorem e_within (p : Int32) (a b : Nat) (σ : PS) : F_X4_within p (nI a) (nI b) σ = some (bI (inR p a b), σ) := by
  unfold F_X4_within inR cLt cGt
  cases decide (p < nI a) <;> cases decide (nI b < p) <;> rfl
theorem e_isDigit (p : Int32) (σ : PS) : F_X4_isDigit p σ = some (bI (inR p 0 9), σ) := by
  unfold F_X4_isDigit
  rw [show (0 : Int32) = nI 0 from rfl, show (9 : Int32) = nI 9 from rfl, e_within, Option.bind_some]
  dsimp only
  rw [okb_bI]
  rfl
theorem e_isLane (p : Int32) (σ : PS) : F_X4_isLane p σ = some (bI (inR p 0 2), σ) := by
  unfold F_X4_isLane
  rw [show (0 : Int32) = nI 0 from rfl, show (2 : Int32) = nI 2 from rfl, e_within, Option.bind_some]
  dsimp only
  rw [okb_bI]
  rfl
theorem e_isStep (p : Int32) (σ : PS) : F_X4_isStep p σ = some (bI (inR p 0 3), σ) := by
  unfold F_X4_isStep
  rw [show (0 : Int32) = nI 0 from rfl, show (3 : Int32) = nI 3 from rfl, e_within, Option.bind_some]
  dsimp only
  rw [okb_bI]
  rfl
theorem lg_lt0 (a b : Int64) : cLt (lg_cmp a b) 0 = decide (a < b) := by
  unfold lg_cmp cLt
  by_cases h1 : b < a
  · have : ¬ a < b := lg_lt_not h1
    simp [h1, this]
  · by_cases h2 : a = b
    · subst h2; simp [Int64.lt_irrefl]
    · have h3 : a < b := by
        rw [Int64.lt_iff_toInt_lt] at h1 ⊢
        have : a.toInt ≠ b.toInt := fun q => h2 (Int64.toInt_inj.mp q)
        omega
      simp [h1, h2, h3]
theorem lg_gt0 (a b : Int64) : cGt (lg_cmp a b) 0 = decide (b < a) := by
  unfold lg_cmp cGt
  by_cases h1 : b < a
  · simp [h1]
  · by_cases h2 : a = b
    · simp [h1, h2]
    · simp [h1, h2]
/-- p is one of a .. b, as the model asks it -/
theorem e_in (p : Int32) (a b : Int64) (σ : PS) : F_X5_in p.toInt64 a b σ = some (bI (!decide (p.toInt64 < a) && !decide (b < p.toInt64)), σ) := by
  unfold F_X5_in
  rw [lg_lt0, lg_gt0]
  cases decide (p.toInt64 < a) <;> cases decide (b < p.toInt64) <;> rfl
theorem in_R (p : Int32) (a b : Nat) (ha : a < 2147483648) (hb : b < 2147483648) : (!decide (p.toInt64 < lN a) && !decide (lN b < p.toInt64)) = inR p a b := by
  unfold inR
  have e1 : decide (p.toInt64 < lN a) = decide (p < nI a) := by
    rw [decide_eq_decide, Int64.lt_iff_toInt_lt, Int32.lt_iff_toInt_lt, Int32.toInt_toInt64, lN_toInt ha, nI_toInt ha]
  have e2 : decide (lN b < p.toInt64) = decide (nI b < p) := by
    rw [decide_eq_decide, Int64.lt_iff_toInt_lt, Int32.lt_iff_toInt_lt, Int32.toInt_toInt64, lN_toInt hb, nI_toInt hb]
  rw [e1, e2]
theorem e_inR (p : Int32) (a b : Nat) (ha : a < 2147483648) (hb : b < 2147483648) (σ : PS) : F_X5_in p.toInt64 (lN a) (lN b) σ = some (bI (inR p a b), σ) := by
  rw [e_in, in_R p a b ha hb]
/-- p is one of 0 .. n - 1, as the model asks it of n below 2^31 -/
theorem e_inN (p : Int32) (n : Nat) (hn : n < 2147483648) (σ : PS) : F_X5_in p.toInt64 0 ((nI n).toInt64 - 1) σ = some (bI (vin p n), σ) := by
  rw [e_in]
  congr 2
  have e0 : (0 : Int64) = lN 0 := rfl
  have en : ((nI n).toInt64 - 1 : Int64).toInt = (n : Int) - 1 := by
    rw [nI_l hn]
    by_cases h : n = 0
    · subst h; decide
    · rw [show (1 : Int64) = lN 1 from rfl, lN_sub (by omega), lN_toInt (by omega)]
      omega
  rcases p_cases p with h | ⟨j, hj, rfl⟩
  · rw [vin_neg h]
    have : p.toInt64 < 0 := by
      rw [Int64.lt_iff_toInt_lt, Int32.toInt_toInt64]
      exact Int32.lt_iff_toInt_lt.mp h
    rw [decide_eq_true this]; rfl
  · rw [vin_pos hj]
    have h1 : ¬ (nI j).toInt64 < 0 := by
      rw [nI_l hj, e0, lN_lt hj (by omega)]; omega
    rw [decide_eq_false h1]
    have h2 : (((nI n).toInt64 - 1 : Int64) < (nI j).toInt64) ↔ n ≤ j := by
      rw [Int64.lt_iff_toInt_lt, en, nI_l hj, lN_toInt hj]; omega
    by_cases h3 : n ≤ j
    · rw [decide_eq_true (h2.mpr h3), decide_eq_false (by omega)]; rfl
    · rw [decide_eq_false (fun q => h3 (h2.mp q)), decide_eq_true (by omega)]; rfl
-- frames
theorem gI_sI (σ : PS) (z : Nat) (v : Int32) (c : Nat) : gI (sI σ z v) c = if c = z then v else gI σ c := rfl
theorem gI_sL (σ : PS) (z : Nat) (v : Int64) (c : Nat) : gI (sL σ z v) c = gI σ c := rfl
theorem gI_sA (σ : PS) (a i : Nat) (v : Int32) (c : Nat) : gI (sA σ a i v) c = gI σ c := rfl
theorem gL_sI (σ : PS) (z : Nat) (v : Int32) (c : Nat) : gL (sI σ z v) c = gL σ c := rfl
theorem gL_sL (σ : PS) (z : Nat) (v : Int64) (c : Nat) : gL (sL σ z v) c = if c = z then v else gL σ c := rfl
theorem gL_sA (σ : PS) (a i : Nat) (v : Int32) (c : Nat) : gL (sA σ a i v) c = gL σ c := rfl
theorem gA_sI (σ : PS) (z : Nat) (v : Int32) (a i : Nat) : gA (sI σ z v) a i = gA σ a i := rfl
theorem gA_sL (σ : PS) (z : Nat) (v : Int64) (a i : Nat) : gA (sL σ z v) a i = gA σ a i := rfl
theorem gA_sA (σ : PS) (a i : Nat) (v : Int32) (c j : Nat) : gA (sA σ a i v) c j = if c = a then (if j = i then v else gA σ a j) else gA σ c j := by
  unfold gA sA va_up
  simp only
  by_cases h : c = a
  · subst h; simp [upd]
  · simp [h]
def eqC (σ σ' : PS) : Prop := (∀ z, z < 1216 → gI σ' z = gI σ z) ∧ (∀ z, z < 1216 → gL σ' z = gL σ z) ∧ ∀ a, a < 20 → ∀ i, gA σ' a i = gA σ a i
def eqM (σ σ' : PS) : Prop := (∀ z, 1216 ≤ z → gI σ' z = gI σ z) ∧ (∀ z, 1216 ≤ z → gL σ' z = gL σ z) ∧ ∀ a, 20 ≤ a → ∀ i, gA σ' a i = gA σ a i
theorem eqC.rf {σ : PS} : eqC σ σ := ⟨fun _ _ => rfl, fun _ _ => rfl, fun _ _ _ => rfl⟩
theorem eqM.rf {σ : PS} : eqM σ σ := ⟨fun _ _ => rfl, fun _ _ => rfl, fun _ _ _ => rfl⟩
theorem eqC.tr {a b c : PS} (h : eqC a b) (h2 : eqC b c) : eqC a c := ⟨fun z q => (h2.1 z q).trans (h.1 z q), fun z q => (h2.2.1 z q).trans (h.2.1 z q), fun z q i => (h2.2.2 z q i).trans (h.2.2 z q i)⟩
theorem eqM.tr {a b c : PS} (h : eqM a b) (h2 : eqM b c) : eqM a c := ⟨fun z q => (h2.1 z q).trans (h.1 z q), fun z q => (h2.2.1 z q).trans (h.2.1 z q), fun z q i => (h2.2.2 z q i).trans (h.2.2 z q i)⟩
theorem eqM_sI {σ : PS} {z : Nat} {v : Int32} (h : z < 1216) : eqM σ (sI σ z v) := ⟨fun c q => by rw [gI_sI, if_neg (by omega)], fun _ _ => rfl, fun _ _ _ => rfl⟩
theorem eqM_sL {σ : PS} {z : Nat} {v : Int64} (h : z < 1216) : eqM σ (sL σ z v) := ⟨fun _ _ => rfl, fun c q => by rw [gL_sL, if_neg (by omega)], fun _ _ _ => rfl⟩
theorem eqM_sA {σ : PS} {a i : Nat} {v : Int32} (h : a < 20) : eqM σ (sA σ a i v) := ⟨fun _ _ => rfl, fun _ _ => rfl, fun c q j => by rw [gA_sA, if_neg (by omega)]⟩
theorem eqC_sI {σ : PS} {z : Nat} {v : Int32} (h : 1216 ≤ z) : eqC σ (sI σ z v) := ⟨fun c q => by rw [gI_sI, if_neg (by omega)], fun _ _ => rfl, fun _ _ _ => rfl⟩
theorem eqC_sL {σ : PS} {z : Nat} {v : Int64} (h : 1216 ≤ z) : eqC σ (sL σ z v) := ⟨fun _ _ => rfl, fun c q => by rw [gL_sL, if_neg (by omega)], fun _ _ _ => rfl⟩
theorem eqC_sA {σ : PS} {a i : Nat} {v : Int32} (h : 20 ≤ a) : eqC σ (sA σ a i v) := ⟨fun _ _ => rfl, fun _ _ => rfl, fun c q j => by rw [gA_sA, if_neg (by omega)]⟩
theorem RC_eq {A : AS} {σ σ' : PS} (h : eqC σ σ') (hC : RC A σ) : RC A σ' := by
  obtain ⟨h1, h2, h3⟩ := h
  obtain ⟨⟨a1, a2, a3, a4, a5, a6, a7⟩, ⟨b1, b2⟩, ⟨c1, c2⟩, d1, d2, d3⟩ := hC
  refine ⟨⟨?_, ?_, ?_, ?_, ?_, ?_, ?_⟩, ⟨fun i hi => ?_, fun k hk => ?_⟩, ⟨?_, fun i hi => ?_⟩, ?_, ?_, fun k hk => ?_⟩
  · rw [h1 _ (by omega)]; exact a1
  · rw [h1 _ (by omega)]; exact a2
  · rw [h1 _ (by omega)]; exact a3
  · rw [h1 _ (by omega)]; exact a4
  · rw [h1 _ (by omega)]; exact a5
  · rw [h2 _ (by omega)]; exact a6
  · rw [h1 _ (by omega)]; exact a7
  · rw [h3 _ (by omega)]; exact b1 i hi
  · rw [h3 _ (by omega), h3 _ (by omega)]; exact b2 k hk
  · rw [h1 _ (by omega)]; exact c1
  · rw [h3 _ (by omega), h3 _ (by omega), h3 _ (by omega)]; exact c2 i hi
  · rw [h1 _ (by omega)]; exact d1
  · rw [h1 _ (by omega)]; exact d2
  · obtain ⟨e1, e2, e3⟩ := d3 k hk
    exact ⟨by rw [h1 _ (by omega)]; exact e1, by rw [h1 _ (by omega)]; exact e2, fun i hi => by rw [h3 _ (by omega)]; exact e3 i hi⟩
theorem RM_eq {A : AS} {σ σ' : PS} (h : eqM σ σ') (hC : RM A σ) : RM A σ' := by
  obtain ⟨h1, h2, h3⟩ := h
  obtain ⟨⟨a1, a2, a3, a4, a5, a6, a7, a8⟩, ⟨b1, b2⟩, ⟨c1, c2⟩, d1, d2, d3⟩ := hC
  refine ⟨⟨?_, ?_, ?_, ?_, ?_, ?_, ?_, ?_⟩, ⟨fun i hi => ?_, fun k hk => ?_⟩, ⟨?_, fun i hi => ?_⟩, ?_, ?_, fun k hk => ?_⟩
  · rw [h1 _ (by omega)]; exact a1
  · rw [h1 _ (by omega)]; exact a2
  · rw [h1 _ (by omega)]; exact a3
  · rw [h1 _ (by omega)]; exact a4
  · rw [h1 _ (by omega)]; exact a5
  · rw [h1 _ (by omega)]; exact a6
  · rw [h1 _ (by omega)]; exact a7
  · rw [h2 _ (by omega)]; exact a8
  · rw [h3 _ (by omega)]; exact b1 i hi
  · rw [h3 _ (by omega), h3 _ (by omega)]; exact b2 k hk
  · rw [h1 _ (by omega)]; exact c1
  · rw [h3 _ (by omega), h3 _ (by omega), h3 _ (by omega)]; exact c2 i hi
  · rw [h1 _ (by omega)]; exact d1
  · rw [h1 _ (by omega)]; exact d2
  · obtain ⟨e1, e2, e3⟩ := d3 k hk
    exact ⟨by rw [h3 _ (by omega)]; exact e1, by rw [h3 _ (by omega)]; exact e2, fun i hi => by rw [h3 _ (by omega)]; exact e3 i hi⟩
theorem ansC_mk {α : Type} {f : PS → Option (α × PS)} {A A' : AS} {v : α} (h : ∀ σ, RC A σ → ∃ σ', f σ = some (v, σ') ∧ RC A' σ' ∧ eqM σ σ') : ansC f A v A' := fun σ hC => by
  obtain ⟨σ', h1, h2, h3⟩ := h σ hC
  exact ⟨σ', h1, h2, fun B hB => RM_eq h3 hB⟩
theorem ansM_mk {α : Type} {f : PS → Option (α × PS)} {A A' : AS} {v : α} (h : ∀ σ, RM A σ → ∃ σ', f σ = some (v, σ') ∧ RM A' σ' ∧ eqC σ σ') : ansM f A v A' := fun σ hC => by
  obtain ⟨σ', h1, h2, h3⟩ := h σ hC
  exact ⟨σ', h1, h2, fun B hB => RC_eq h3 hB⟩
/-- a question changes nothing -/
theorem ansC_q {α : Type} {f : PS → Option (α × PS)} {A : AS} {v : α} (h : ∀ σ, RC A σ → f σ = some (v, σ)) : ansC f A v A := ansC_mk fun σ hC => ⟨σ, h σ hC, hC, eqM.rf⟩
theorem ansM_q {α : Type} {f : PS → Option (α × PS)} {A : AS} {v : α} (h : ∀ σ, RM A σ → f σ = some (v, σ)) : ansM f A v A := ansM_mk fun σ hC => ⟨σ, h σ hC, hC, eqC.rf⟩
theorem cnd_t {α : Type} {c : Bool} {a b x : α} (hc : c = true) (h : a = x) : (bif c then a else b) = x := by subst hc; exact h
theorem cnd_f {α : Type} {c : Bool} {a b x : α} (hc : c = false) (h : b = x) : (bif c then a else b) = x := by subst hc; exact h
