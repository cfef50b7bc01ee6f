/-! steps: what both do; grow, many, step -/
theorem bd {α β : Type} {r : Option (α × PS)} {f : α × PS → Option β} {a : α} {σ : PS} {x : Option β} (hr : r = some (a, σ)) (h : f (a, σ) = x) : r.bind f = x := by subst hr; exact h
theorem nt {b : Bool} (h : b = true) : cNe (bI b) 0 = true := by subst h; decide
theorem nf {b : Bool} (h : b = false) : cNe (bI b) 0 = false := by subst h; decide
theorem et {b : Bool} (h : b = true) : cEq (bI b) 0 = false := by subst h; decide
theorem ef {b : Bool} (h : b = false) : cEq (bI b) 0 = true := by subst h; decide
theorem dt {p : Prop} [Decidable p] (h : p) : decide p = true := decide_eq_true h
theorem df {p : Prop} [Decidable p] (h : ¬ p) : decide p = false := decide_eq_false h
def ovN (A : AS) (P : Nat) : Nat := aO A * 2 ^ P
def setP (A : AS) (c r S : Nat) : AS := (fun z => if z = 3 then c else if z = 4 then r else if z = 6 then S else A.1 z, A.2)
theorem ao_lt : ∀ K, K < 5 → ∀ G, G < 16 → G < 2 ^ K → (2 ^ K - 1) ^^^ G < 2 ^ K := by decide +kernel
theorem wf_O {A : AS} (h : WF A) : aO A < 2 ^ aK A ∧ aO A < 16 := by
  have hb := (wf_b h).2.2.1
  obtain ⟨g1, g2⟩ := wf_G h
  have h1 : aO A < 2 ^ aK A := ao_lt _ (by omega) _ g1 g2
  exact ⟨h1, Nat.lt_of_lt_of_le h1 (Nat.pow_le_pow_right (by decide) hb)⟩
theorem lshl_n (n : Nat) {k : Nat} (hk : k < 64) : lshl (lN n) (nI k) = lN (n * 2 ^ k) := wb_shl n hk
theorem e_seenFrom {A : AS} {σ : PS} (hW : WF A) (hC : RC A σ) {P : Nat} (hP : P < 64) : F_X1_seenFrom (nI P) σ = some (lN (ovN A P), σ) := by
  have ho := (wf_O hW).2
  unfold F_X1_seenFrom
  rw [hC.1.2.2.2.1, nI_l (by omega), lshl_n _ hP]; rfl
theorem ov_s : ∀ K, K < 5 → ∀ G, G < 16 → ∀ j, j < 4 → j < K → G < 2 ^ K → ((2 ^ K - 1) ^^^ G) % 2 ^ j ||| (bif G.testBit j then 0 else 2 ^ j) = ((2 ^ K - 1) ^^^ G) % 2 ^ (j + 1) := by decide +kernel
theorem or_mul (a b P : Nat) : (a ||| b) * 2 ^ P = a * 2 ^ P ||| b * 2 ^ P := by
  rw [← Nat.shiftLeft_eq, ← Nat.shiftLeft_eq, ← Nat.shiftLeft_eq, Nat.shiftLeft_or_distrib]
theorem over_run {A : AS} {σ : PS} (hW : WF A) (hM : RM A σ) : ∀ (m f j : Nat), j + m = aK A → m < f → L_X5_over f (lN (aO A % 2 ^ j * 2 ^ aP A)) (nI j) σ = some (lN (ovN A (aP A)), σ) := by
  have hb := (wf_b hW)
  obtain ⟨g1, g2⟩ := wf_G hW
  intro m
  induction m with
  | zero =>
    intro f j h1 h2
    obtain ⟨f, rfl⟩ : ∃ g, f = g + 1 := ⟨f - 1, by omega⟩
    rw [L_X5_over]
    refine cnd_t ?_ ?_
    · rw [hM.1.2.2.1, cGe_nI (by omega) (by omega)]; exact dt (by omega)
    · have e : j = aK A := by omega
      rw [e, Nat.mod_eq_of_lt (wf_O hW).1]; rfl
  | succ m ih =>
    intro f j h1 h2
    obtain ⟨f, rfl⟩ : ∃ g, f = g + 1 := ⟨f - 1, by omega⟩
    have hP := wf_P hW (k := j) (by omega)
    have s := ov_s (aK A) (by omega) (aG A) g1 j (by omega) (by omega) g2
    rw [L_X5_over]
    refine cnd_f ?_ ?_
    · rw [hM.1.2.2.1, cGe_nI (by omega) (by omega)]; exact df (by omega)
    · rw [hM.1.2.2.2.2.2.2.1]
      refine bd (e_isIn hW (by omega)) ?_
      cases ht : (aG A).testBit j with
      | false =>
        rw [ht] at s
        refine cnd_t (ef rfl) (bd (e_placeOf hM j) ?_)
        show L_X5_over f (lN (aO A % 2 ^ j * 2 ^ aP A) ||| lshl (lN 1) (nI (aP A + j))) (nI j + 1) σ = _
        rw [lshl_n _ (by omega), fb_orL, nI_1, Nat.one_mul, Nat.add_comm (aP A) j, Nat.pow_add, ← or_mul]
        have s : aO A % 2 ^ j ||| 2 ^ j = aO A % 2 ^ (j + 1) := s
        rw [s]
        exact ih f (j + 1) (by omega) (by omega)
      | true =>
        rw [ht] at s
        refine cnd_f (et rfl) ?_
        show L_X5_over f (lN (aO A % 2 ^ j * 2 ^ aP A) ||| lN 0) (nI j + 1) σ = _
        rw [fb_orL, nI_1, Nat.or_zero]
        have s : aO A % 2 ^ j ||| 0 = aO A % 2 ^ (j + 1) := s
        rw [Nat.or_zero] at s
        rw [s]
        exact ih f (j + 1) (by omega) (by omega)
theorem e_over {A : AS} {σ : PS} (hW : WF A) (hM : RM A σ) : F_X5_over σ = some (lN (ovN A (aP A)), σ) := by
  have hb := wf_b hW
  have e := over_run hW hM (aK A) fuelN 0 (by omega) (by unfold fuelN; omega)
  rw [nI_0, Nat.pow_zero, Nat.mod_one, Nat.zero_mul] at e
  exact e
def okS (W T K s c r : Nat) : Bool := if s = 0 then decide (0 < r) else if s = 1 then decide (c + K < W) else if s = 2 then decide (r + 1 < T) else decide (0 < c)
def stC (s c : Nat) : Nat := if s = 1 then c + 1 else if s = 3 then c - 1 else c
def stR (s r : Nat) : Nat := if s = 0 then r - 1 else if s = 2 then r + 1 else r
theorem wf_n {A : AS} (h : WF A) (hn : aW A ≠ 0) : 2 ≤ aW A ∧ aW A ≤ 6 ∧ 2 ≤ aT A ∧ aT A ≤ 6 ∧ 1 ≤ aK A ∧ aK A ≤ 4 ∧ aC A + aK A ≤ aW A ∧ aR A < aT A ∧ aG A < 2 ^ aK A ∧ aS A < 2 ^ (aW A * aT A) ∧ aN A ≤ 8 := by
  rcases h.1 with ⟨a, -⟩ | q
  · exact absurd a hn
  · exact q
theorem okS_in {W T K s c r : Nat} (h : okS W T K s c r = true) (hc : c + K ≤ W) (hr : r < T) : stC s c + K ≤ W ∧ stR s r < T := by
  unfold okS at h
  unfold stC stR
  split at h
  · subst s; have := of_decide_eq_true h; simp; omega
  · split at h
    · subst s; have := of_decide_eq_true h; simp; omega
    · split at h
      · subst s; have := of_decide_eq_true h; simp; omega
      · have := of_decide_eq_true h
        rename_i h0 h1 h2
        rw [if_neg h1, if_neg h0, if_neg h2]
        split <;> omega
theorem cell_lt {W T c r : Nat} (hc : c < W) (hr : r < T) : W * r + c < W * T := by
  have h1 : W * (r + 1) ≤ W * T := Nat.mul_le_mul_left _ hr
  rw [Nat.mul_succ] at h1
  omega
theorem e_columnOf {A : AS} {σ : PS} (hW : WF A) (hC : RC A σ) {c r : Nat} (hc : c < aW A) (hr : r < aT A) : F_X1_columnOf (nI (aW A * r + c)) σ = some (nI c, σ) := by
  have hb := wf_b hW
  have hl := cell_lt hc hr
  unfold F_X1_columnOf
  rw [hC.1.1]
  refine cnd_f ?_ (cnd_f ?_ ?_)
  · exact (cLe_nI (b := 0) (by omega) (by decide)).trans (df (by omega))
  · exact (cEq_nI (b := 0) (by omega) (by decide)).trans (df (by omega))
  · unfold irem
    rw [pk_rem (by omega) (by omega) (by omega), Nat.mul_add_mod, Nat.mod_eq_of_lt hc]
theorem e_rowOf {A : AS} {σ : PS} (hW : WF A) (hC : RC A σ) {c r : Nat} (hc : c < aW A) (hr : r < aT A) : F_X1_rowOf (nI (aW A * r + c)) σ = some (nI r, σ) := by
  have hb := wf_b hW
  have hl := cell_lt hc hr
  unfold F_X1_rowOf
  rw [hC.1.1]
  refine cnd_f ?_ (cnd_f ?_ ?_)
  · exact (cLe_nI (b := 0) (by omega) (by decide)).trans (df (by omega))
  · exact (cEq_nI (b := 0) (by omega) (by decide)).trans (df (by omega))
  · rw [pk_div (by omega) (by omega) (by omega), Nat.mul_add_div (by omega), Nat.div_eq_of_lt hc, Nat.add_zero]
theorem e_next {A : AS} {σ : PS} (hW : WF A) (hn : aW A ≠ 0) (hC : RC A σ) {c r s : Nat} (hc : c + aK A ≤ aW A) (hr : r < aT A) (hs : s < 4) : F_X1_nextPlace (nI (aW A * r + c)) (nI s) σ = some (bif okS (aW A) (aT A) (aK A) s c r then nI (aW A * stR s r + stC s c) else -9, σ) := by
  have hw := wf_n hW hn
  have hb := wf_b hW
  have hl := cell_lt (W := aW A) (c := c) (by omega) hr
  have h4 : s = 0 ∨ s = 1 ∨ s = 2 ∨ s = 3 := by omega
  unfold F_X1_nextPlace
  rcases h4 with rfl | rfl | rfl | rfl
  · refine cnd_t (by decide) (bd (e_rowOf hW hC (by omega) hr) ?_)
    by_cases h : 0 < r
    · refine cnd_f ((cLe_nI (b := 0) (by omega) (by decide)).trans (df (by omega))) ?_
      rw [show okS (aW A) (aT A) (aK A) 0 c r = true from dt h, cond_true]
      show some (nI (aW A * r + c) - gI σ 643, σ) = some (nI (aW A * (r - 1) + c), σ)
      obtain ⟨q, rfl⟩ : ∃ q, r = q + 1 := ⟨r - 1, by omega⟩
      rw [hC.1.1, Nat.mul_succ, pk_sub (by omega), Nat.add_sub_cancel, show aW A * q + aW A + c - aW A = aW A * q + c from by omega]
    · refine cnd_t ((cLe_nI (b := 0) (by omega) (by decide)).trans (dt (by omega))) ?_
      rw [show okS (aW A) (aT A) (aK A) 0 c r = false from df h]; rfl
  · refine cnd_f (by decide) (cnd_t (by decide) (bd (e_columnOf hW hC (by omega) hr) ?_))
    show (bif cGe (nI c + gI σ 645) (gI σ 643) then some (-9, σ) else some (nI (aW A * r + c) + 1, σ)) = _
    rw [hC.1.1, hC.1.2.2.1, nI_add, cGe_nI (by omega) (by omega)]
    by_cases h : c + aK A < aW A
    · rw [show okS (aW A) (aT A) (aK A) 1 c r = true from dt h, df (by omega), nI_1]; rfl
    · rw [show okS (aW A) (aT A) (aK A) 1 c r = false from df h, dt (by omega)]; rfl
  · refine cnd_f (by decide) (cnd_f (by decide) (cnd_t (by decide) (bd (e_rowOf hW hC (by omega) hr) ?_)))
    show (bif cGe (nI r + 1) (gI σ 644) then some (-9, σ) else some (nI (aW A * r + c) + gI σ 643, σ)) = _
    rw [hC.1.1, hC.1.2.1, nI_1, nI_add, cGe_nI (by omega) (by omega)]
    by_cases h : r + 1 < aT A
    · rw [show okS (aW A) (aT A) (aK A) 2 c r = true from dt h, df (by omega), show aW A * r + c + aW A = aW A * (r + 1) + c from by rw [Nat.mul_succ]; omega]; rfl
    · rw [show okS (aW A) (aT A) (aK A) 2 c r = false from df h, dt (by omega)]; rfl
  · refine cnd_f (by decide) (cnd_f (by decide) (cnd_f (by decide) (cnd_t (by decide) (bd (e_columnOf hW hC (by omega) hr) ?_))))
    by_cases h : 0 < c
    · refine cnd_f ((cLe_nI (b := 0) (by omega) (by decide)).trans (df (by omega))) ?_
      rw [show okS (aW A) (aT A) (aK A) 3 c r = true from dt h, cond_true]
      show some (nI (aW A * r + c) - 1, σ) = some (nI (aW A * r + (c - 1)), σ)
      obtain ⟨q, rfl⟩ : ∃ q, c = q + 1 := ⟨c - 1, by omega⟩
      rw [← Nat.add_assoc, nI_pred, Nat.add_sub_cancel]
    · refine cnd_t ((cLe_nI (b := 0) (by omega) (by decide)).trans (dt (by omega))) ?_
      rw [show okS (aW A) (aT A) (aK A) 3 c r = false from df h]; rfl
theorem inR_vin (p : Int32) {b : Nat} (hb : b + 1 < 2147483648) : inR p 0 b = vin p (b + 1) := by
  rcases p_cases p with h | ⟨j, hj, rfl⟩
  · rw [inR_neg h, vin_neg h]
  · rw [inR_pos hj (by decide) (by omega), vin_pos hj, dt (Nat.zero_le j), Bool.true_and, decide_eq_decide]; omega
theorem e_isPlaceM {A : AS} {σ : PS} (hW : WF A) (hn : aW A ≠ 0) (hM : RM A σ) (p q : Int32) : F_X5_isPlace p q σ = some (bI (vin p (aW A - aK A + 1) && vin q (aT A)), σ) := by
  have hw := wf_n hW hn
  unfold F_X5_isPlace
  rw [hM.1.1, hM.1.2.2.1, pk_sub (by omega), nI_l (n := aW A - aK A) (by omega)]
  refine bd (e_inR p 0 (aW A - aK A) (by decide) (by omega) σ) ?_
  rw [inR_vin p (by omega)]
  cases h : vin p (aW A - aK A + 1) with
  | false => exact cnd_t (ef rfl) rfl
  | true =>
    refine cnd_f (et rfl) ?_
    dsimp only
    rw [hM.1.2.1]
    refine bd (e_inN q (aT A) (by omega) σ) ?_
    cases h2 : vin q (aT A) with
    | false => exact cnd_t (ef rfl) rfl
    | true => exact cnd_f (et rfl) rfl
theorem nI_m (n : Nat) : nI (n + 1) + (-1) = nI n := by rw [← Int32.sub_eq_add_neg, nI_pred]
theorem vin_m1 (N : Nat) : vin (nI 0 + (-1)) N = false := vin_neg (by decide)
def dC (s : Nat) : Int32 := if s = 1 then 1 else if s = 3 then -1 else 0
def dR (s : Nat) : Int32 := if s = 0 then -1 else if s = 2 then 1 else 0
theorem e_colBy {s : Nat} (hs : s < 4) (σ : PS) : F_X5_columnBy (nI s) σ = some (dC s, σ) := by
  have h4 : s = 0 ∨ s = 1 ∨ s = 2 ∨ s = 3 := by omega
  rcases h4 with rfl | rfl | rfl | rfl <;> rfl
theorem e_rowBy {s : Nat} (hs : s < 4) (σ : PS) : F_X5_rowBy (nI s) σ = some (dR s, σ) := by
  have h4 : s = 0 ∨ s = 1 ∨ s = 2 ∨ s = 3 := by omega
  rcases h4 with rfl | rfl | rfl | rfl <;> rfl
theorem d_ok {W T K s c r : Nat} (hW : W ≤ 6) (hT : T ≤ 6) (hs : s < 4) (hc : c + K ≤ W) (hr : r < T) : (vin (nI c + dC s) (W - K + 1) && vin (nI r + dR s) T) = okS W T K s c r := by
  have h4 : s = 0 ∨ s = 1 ∨ s = 2 ∨ s = 3 := by omega
  have vc : vin (nI c) (W - K + 1) = true := vin_of_lt (by omega) (by omega)
  have vr : vin (nI r) T = true := vin_of_lt hr (by omega)
  have z : ∀ n, nI n + 0 = nI n := fun n => by rw [show (0 : Int32) = nI 0 from rfl, nI_add, Nat.add_zero]
  rcases h4 with rfl | rfl | rfl | rfl
  · show (vin (nI c + 0) (W - K + 1) && vin (nI r + (-1)) T) = decide (0 < r)
    rw [z, vc, Bool.true_and]
    cases r with
    | zero => rw [vin_m1]; rfl
    | succ r => rw [nI_m, vin_of_lt (by omega) (by omega)]; rfl
  · show (vin (nI c + 1) (W - K + 1) && vin (nI r + 0) T) = decide (c + K < W)
    rw [z, vr, Bool.and_true, nI_1, vin_pos (by omega), decide_eq_decide]; omega
  · show (vin (nI c + 0) (W - K + 1) && vin (nI r + 1) T) = decide (r + 1 < T)
    rw [z, vc, Bool.true_and, nI_1, vin_pos (by omega)]
  · show (vin (nI c + (-1)) (W - K + 1) && vin (nI r + 0) T) = decide (0 < c)
    rw [z, vr, Bool.and_true]
    cases c with
    | zero => rw [vin_m1]; rfl
    | succ c => rw [nI_m, vin_of_lt (by omega) (by omega)]; rfl
theorem d_C {W T K s c r : Nat} (hs : s < 4) (h : okS W T K s c r = true) : nI c + dC s = nI (stC s c) ∧ nI r + dR s = nI (stR s r) := by
  have h4 : s = 0 ∨ s = 1 ∨ s = 2 ∨ s = 3 := by omega
  have z : ∀ n, nI n + 0 = nI n := fun n => by rw [show (0 : Int32) = nI 0 from rfl, nI_add, Nat.add_zero]
  rcases h4 with rfl | rfl | rfl | rfl
  · have := of_decide_eq_true (show decide (0 < r) = true from h)
    refine ⟨z c, ?_⟩
    cases r with
    | zero => omega
    | succ r => exact nI_m r
  · exact ⟨nI_1 c, z r⟩
  · exact ⟨z c, nI_1 r⟩
  · have := of_decide_eq_true (show decide (0 < c) = true from h)
    refine ⟨?_, z r⟩
    cases c with
    | zero => omega
    | succ c => exact nI_m c
theorem WF_P {A : AS} {c r S : Nat} (h : WF A) (hn : aW A ≠ 0) (hc : c + aK A ≤ aW A) (hr : r < aT A) (hS : S < 2 ^ (aW A * aT A)) : WF (setP A c r S) := by
  have hw := wf_n h hn
  exact ⟨Or.inr ⟨hw.1, hw.2.1, hw.2.2.1, hw.2.2.2.1, hw.2.2.2.2.1, hw.2.2.2.2.2.1, hc, hr, hw.2.2.2.2.2.2.2.2.1, hS, hw.2.2.2.2.2.2.2.2.2.2⟩, h.2.1, h.2.2⟩
theorem RM_P {A : AS} {σ : PS} (c r S : Nat) (h : RM A σ) : RM (setP A c r S) (sL (sI (sI σ 1220 (nI c)) 1221 (nI r)) 1224 (lN S)) := by
  obtain ⟨⟨a1, a2, a3, a4, a5, a6, a7, a8⟩, h2, ⟨h4, h5⟩, h6, h7, h8⟩ := h
  refine ⟨⟨a1, a2, a3, ?_, ?_, a6, a7, ?_⟩, h2, ⟨h4, h5⟩, h6, h7, h8⟩
  · rw [gI_sL, gI_sI, if_neg (by decide), gI_sI, if_pos rfl]; rfl
  · rw [gI_sL, gI_sI, if_pos rfl]; rfl
  · rw [gL_sL, if_pos rfl]; rfl
theorem RM_P2 {A : AS} {σ : PS} (c r : Nat) (h : RM A σ) : RM (setP A c r (aS A)) (sI (sI σ 1220 (nI c)) 1221 (nI r)) := by
  obtain ⟨⟨a1, a2, a3, a4, a5, a6, a7, a8⟩, h2, ⟨h4, h5⟩, h6, h7, h8⟩ := h
  refine ⟨⟨a1, a2, a3, ?_, ?_, a6, a7, a8⟩, h2, ⟨h4, h5⟩, h6, h7, h8⟩
  · rw [gI_sI, if_neg (by decide), gI_sI, if_pos rfl]; rfl
  · rw [gI_sI, if_pos rfl]; rfl
theorem setP_P (A : AS) (c r S c2 r2 S2 : Nat) : setP (setP A c r S) c2 r2 S2 = setP A c2 r2 S2 := by
  unfold setP
  refine Prod.ext ?_ rfl
  funext z
  dsimp only
  split
  · rfl
  · split
    · rfl
    · split <;> rfl
theorem setP_id (A : AS) : setP A (aC A) (aR A) (aS A) = A := by
  unfold setP
  refine Prod.ext ?_ rfl
  funext z
  dsimp only
  split
  · subst z; rfl
  · split
    · subst z; rfl
    · split
      · subst z; rfl
      · rfl
theorem ov_lt {A : AS} (hW : WF A) {c r : Nat} (hc : c + aK A ≤ aW A) (hr : r < aT A) (hn : aW A ≠ 0) : ovN A (aW A * r + c) < 2 ^ (aW A * aT A) := by
  have hw := wf_n hW hn
  have h1 := cell_lt (W := aW A) (c := c + aK A - 1) (r := r) (T := aT A) (by omega) hr
  have h2 : aO A * 2 ^ (aW A * r + c) < 2 ^ aK A * 2 ^ (aW A * r + c) := Nat.mul_lt_mul_of_pos_right (wf_O hW).1 (Nat.two_pow_pos _)
  rw [← Nat.pow_add] at h2
  exact Nat.lt_of_lt_of_le h2 (Nat.pow_le_pow_right (by decide) (by omega))
/-- the state behind a STEP of the sort s -/
def mvA (A : AS) (s : Nat) : AS := setP A (stC s (aC A)) (stR s (aR A)) (aS A ||| ovN A (aW A * stR s (aR A) + stC s (aC A)))
def okA (A : AS) (s : Nat) : Bool := okS (aW A) (aT A) (aK A) s (aC A) (aR A)
theorem WF_mv {A : AS} {s : Nat} (hW : WF A) (hn : aW A ≠ 0) (h : okA A s = true) : WF (mvA A s) := by
  have hw := wf_n hW hn
  obtain ⟨h1, h2⟩ := okS_in h hw.2.2.2.2.2.2.1 hw.2.2.2.2.2.2.2.1
  exact WF_P hW hn h1 h2 (Nat.or_lt_two_pow hw.2.2.2.2.2.2.2.2.2.1 (ov_lt hW h1 h2 hn))
def mvM (A : AS) (s : Nat) (σ : PS) : PS := sL (sI (sI σ 1220 (nI (stC s (aC A)))) 1221 (nI (stR s (aR A)))) 1224 (lN (aS A ||| ovN A (aW A * stR s (aR A) + stC s (aC A))))
theorem RM_mv {A : AS} {σ : PS} (s : Nat) (h : RM A σ) : RM (mvA A s) (mvM A s σ) := RM_P _ _ _ h
theorem m_steps {A : AS} {σ : PS} (hW : WF A) (hn : aW A ≠ 0) (hM : RM A σ) {s : Nat} (hs : s < 4) : F_X5_steps (nI s) σ = some (bI (okA A s), bif okA A s then mvM A s σ else σ) := by
  have hw := wf_n hW hn
  unfold F_X5_steps
  refine bd (e_colBy hs σ) (bd (e_rowBy hs σ) (bd (e_isPlaceM hW hn hM _ _) ?_))
  rw [hM.1.2.2.2.1, hM.1.2.2.2.2.1, d_ok (by omega) (by omega) hs hw.2.2.2.2.2.2.1 hw.2.2.2.2.2.2.2.1]
  show (bif cNe (bI (okA A s)) 0 then _ else _) = _
  cases h : okA A s with
  | false => exact cnd_f (nf rfl) rfl
  | true =>
    obtain ⟨e1, e2⟩ := d_C hs h
    obtain ⟨h1, h2⟩ := okS_in h hw.2.2.2.2.2.2.1 hw.2.2.2.2.2.2.2.1
    refine cnd_t (nt rfl) ?_
    dsimp only
    rw [e1, e2]
    have hM2 : RM (setP A (stC s (aC A)) (stR s (aR A)) (aS A)) (sI (sI σ 1220 (nI (stC s (aC A)))) 1221 (nI (stR s (aR A)))) := RM_P2 _ _ hM
    have hW2 : WF (setP A (stC s (aC A)) (stR s (aR A)) (aS A)) := WF_P hW hn h1 h2 hw.2.2.2.2.2.2.2.2.2.1
    refine bd (e_over hW2 hM2) ?_
    dsimp only
    rw [hM2.1.2.2.2.2.2.2.2, fb_orL]; rfl
