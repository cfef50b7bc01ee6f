/-! sea: how a TEXT is read; the class' side -/
def dv (z : Nat) : Int32 := if z = 0 then -1 else nI (z - 1)
def dgv (v : Int32) : Nat := if inR v 48 57 then v.toNatClampNeg - 47 else 0
def kdv (v : Int32) : Nat := if v = 112 then 1 else if v = 100 then 2 else if v = 103 then 3 else 0
def cdN (n : Nat) (d : Nat → Int32) (q : Int32) (x : Nat) : Int32 := if x < n then d x else q
def dgN (n : Nat) (d : Nat → Int32) (x : Nat) : Nat := dgv (cdN n d (-1) x)
def kdN (n : Nat) (d : Nat → Int32) (x : Nat) : Nat := kdv (cdN n d (-1) x)
def isN (n : Nat) (d : Nat → Int32) (x : Nat) (v : Int32) : Bool := decide (cdN n d (-1) x = v)
theorem inR_ex48 {v : Int32} (h : inR v 48 57 = true) : ∃ j, 48 ≤ j ∧ j ≤ 57 ∧ v = nI j := by
  rcases p_cases v with hp | ⟨j, hj, rfl⟩
  · exfalso
    have q : v < nI 48 := by
      rw [Int32.lt_iff_toInt_lt] at hp ⊢
      rw [show (0 : Int32).toInt = 0 from by decide] at hp
      rw [show (nI 48).toInt = 48 from by decide]
      omega
    unfold inR at h
    rw [dt q] at h
    cases h
  · rw [inR_pos hj (by decide) (by decide), Bool.and_eq_true] at h
    exact ⟨j, of_decide_eq_true h.1, of_decide_eq_true h.2, rfl⟩
theorem dgv_le (v : Int32) : dgv v ≤ 10 := by
  unfold dgv
  split
  · rename_i h
    obtain ⟨j, h1, h2, rfl⟩ := inR_ex48 h
    rw [tn (by omega)]
    omega
  · omega
theorem kdv_le (v : Int32) : kdv v ≤ 3 := by
  unfold kdv
  split
  · omega
  · split
    · omega
    · split <;> omega
theorem e_digitOf (v : Int32) (σ : PS) : F_X2_digitOf v σ = some (dv (dgv v), σ) := by
  unfold F_X2_digitOf
  refine bd (e_within v 48 57 σ) ?_
  cases h : inR v 48 57 with
  | false =>
    refine cnd_t (ef rfl) ?_
    unfold dgv
    rw [h]; rfl
  | true =>
    obtain ⟨j, h1, h2, rfl⟩ := inR_ex48 h
    refine cnd_f (et rfl) ?_
    unfold dgv dv
    rw [h, if_pos rfl, tn (by omega), if_neg (by omega), show (48 : Int32) = nI 48 from rfl, pk_sub h1, show j - 47 - 1 = j - 48 from by omega]
theorem e_kindOf2 (v : Int32) (σ : PS) : F_X2_kindOf v σ = some (dv (kdv v), σ) := by
  unfold F_X2_kindOf kdv
  by_cases h1 : v = 112
  · rw [h1]; rfl
  · rw [if_neg h1]
    by_cases h2 : v = 100
    · rw [h2]; rfl
    · rw [if_neg h2, df h2]
      by_cases h3 : v = 103
      · rw [h3]; rfl
      · rw [if_neg h3, df h3, df h1]; rfl
theorem dv_ge : ∀ z, z < 100 → cGe (dv z) 0 = !decide (z = 0) := by decide +kernel
theorem dv_lt : ∀ z, z < 100 → cLt (dv z) 0 = decide (z = 0) := by decide +kernel
theorem dv_edge : ∀ z, z < 11 → inR (dv z) 2 6 = decide (3 ≤ z ∧ z ≤ 7) := by decide +kernel
theorem dv_s (z : Nat) : dv (z + 1) = nI z := rfl
theorem imin_4 : ∀ W, W < 10 → imin (nI W) 4 = nI (min W 4) := by decide +kernel
theorem e_codeC {n : Nat} {d : Nat → Int32} {σ : PS} (hn : n ≤ 60) (hd : ∀ x, x < n → gA σ 18 x = d x) {x : Nat} (hx : x < 1000) : F_X2_codeAt 18 60 (nI n) (nI x) σ = some (cdN n d (-1) x, σ) := by
  unfold F_X2_codeAt cdN
  rw [cGe_nI (by omega) (by omega)]
  by_cases h : x < n
  · rw [df (by omega), if_pos h]
    refine bd (e_numberAt _ σ (by decide)) ?_
    dsimp only
    rw [vin_of_lt (by omega) (by decide), tn (by omega), cond_true, hd x h]
  · rw [dt (by omega), if_neg h]; rfl
theorem dg_in {n : Nat} {d : Nat → Int32} {x z : Nat} (h : dgN n d x = z + 1) : x < n := by
  rcases Nat.lt_or_ge x n with q | q
  · exact q
  · unfold dgN cdN at h
    rw [if_neg (by omega), show dgv (-1) = 0 from by decide] at h
    omega
theorem e_num {n : Nat} {d : Nat → Int32} {σ : PS} (hn : n ≤ 60) (hd : ∀ x, x < n → gA σ 18 x = d x) {x : Nat} (hx : x < n) : F_X4_numberAt 18 60 (nI x) σ = some (cdN n d (-1) x, σ) := by
  rw [e_numberAt _ σ (by decide), vin_of_lt (by omega) (by decide), tn (by omega), cond_true, hd x hx]
  unfold cdN
  rw [if_pos hx]
/-- the first fault: 0 none, else 1 more than its place -/
def tailF (n : Nat) (d : Nat → Int32) (W T p k : Nat) : Nat := if dgN n d (p + 1) = 0 then p + 2 else if W < dgN n d (p + 1) - 1 + k then p + 2 else if dgN n d (p + 2) = 0 then p + 3 else if T ≤ dgN n d (p + 2) - 1 then p + 3 else if p + 3 = n then 0 else p + 4
def lookF (n : Nat) (d : Nat → Int32) (W T e : Nat) : Nat → Nat → Nat
  | 0, k => if isN n d (e + 3 * k) 47 = true ∧ 0 < k then tailF n d W T (e + 3 * k) k else e + 3 * k + 1
  | m + 1, k => if isN n d (e + 3 * k) 47 = true ∧ 0 < k then tailF n d W T (e + 3 * k) k else if isN n d (e + 3 * k) 59 = true then (if kdN n d (e + 3 * k + 1) = 0 then e + 3 * k + 2 else if dgN n d (e + 3 * k + 2) = 0 then e + 3 * k + 3 else lookF n d W T e m (k + 1)) else e + 3 * k + 1
def floorF (n : Nat) (d : Nat → Int32) (r : Nat) : Nat → Nat → Nat
  | 0, _ => r
  | m + 1, x => if dgN n d x = 0 then x + 1 else floorF n d r m (x + 1)
def textF (n : Nat) (d : Nat → Int32) : Nat := if isN n d 0 102 = true then (if 3 ≤ dgN n d 1 ∧ dgN n d 1 ≤ 7 then (if 3 ≤ dgN n d 2 ∧ dgN n d 2 ≤ 7 then floorF n d (lookF n d (dgN n d 1 - 1) (dgN n d 2 - 1) (3 + (dgN n d 1 - 1) * (dgN n d 2 - 1)) (min (dgN n d 1 - 1) 4) 0) ((dgN n d 1 - 1) * (dgN n d 2 - 1)) 3 else 3) else 2) else 1
section textC
variable {n : Nat} {d : Nat → Int32} {σ : PS} (hn : n ≤ 60) (hd : ∀ x, x < n → gA σ 18 x = d x) {W T : Nat} (hW : 2 ≤ W) (hW6 : W ≤ 6) (hT : 2 ≤ T) (hT6 : T ≤ 6) (h1 : dgN n d 1 = W + 1) (h2 : dgN n d 2 = T + 1)
theorem tailC (hn : n ≤ 60) (hd : ∀ x, x < n → gA σ 18 x = d x) (hW6 : W ≤ 6) (hT6 : T ≤ 6) (h1 : dgN n d 1 = W + 1) (h2 : dgN n d 2 = T + 1) {p k : Nat} (hp : p < 100) (hk : k ≤ 4) : F_X2_faultInTail 18 60 (nI n) (nI p) (nI k) σ = some (dv (tailF n d W T p k), σ) := by
  have z1 := dgv_le (cdN n d (-1) (p + 1))
  have z2 := dgv_le (cdN n d (-1) (p + 2))
  unfold F_X2_faultInTail tailF
  rw [nI_1, show (2 : Int32) = nI 2 from rfl, show (3 : Int32) = nI 3 from rfl, nI_add, nI_add]
  refine bd (e_codeC hn hd (by omega)) (bd (e_digitOf _ σ) ?_)
  dsimp only
  rw [dv_lt _ (by omega), show dgv (cdN n d (-1) (p + 1)) = dgN n d (p + 1) from rfl]
  by_cases q1 : dgN n d (p + 1) = 0
  · rw [if_pos q1, dt q1]; rfl
  · rw [if_neg q1, df q1, cond_false]
    obtain ⟨y, hy⟩ : ∃ y, dgN n d (p + 1) = y + 1 := ⟨dgN n d (p + 1) - 1, by omega⟩
    have hy9 : y ≤ 9 := by have : dgN n d (p + 1) ≤ 10 := z1; omega
    refine bd (e_num (x := 1) hn hd (dg_in h1)) (bd (e_digitOf _ σ) ?_)
    dsimp only
    rw [show dgv (cdN n d (-1) 1) = dgN n d 1 from rfl, h1, hy, dv_s, dv_s, nI_add, cLe_nI (by omega) (by omega), Nat.add_sub_cancel]
    by_cases q2 : W < y + k
    · rw [if_pos q2, df (by omega)]; rfl
    · rw [if_neg q2, dt (by omega), cond_true]
      refine bd (e_codeC hn hd (by omega)) (bd (e_digitOf _ σ) ?_)
      dsimp only
      rw [dv_lt _ (by omega), show dgv (cdN n d (-1) (p + 2)) = dgN n d (p + 2) from rfl]
      by_cases q3 : dgN n d (p + 2) = 0
      · rw [if_pos q3, dt q3]; rfl
      · rw [if_neg q3, df q3, cond_false]
        obtain ⟨w, hw⟩ : ∃ w, dgN n d (p + 2) = w + 1 := ⟨dgN n d (p + 2) - 1, by omega⟩
        have hw9 : w ≤ 9 := by have : dgN n d (p + 2) ≤ 10 := z2; omega
        refine bd (e_num (x := 2) hn hd (dg_in h2)) (bd (e_digitOf _ σ) ?_)
        dsimp only
        rw [show dgv (cdN n d (-1) 2) = dgN n d 2 from rfl, h2, hw, dv_s, dv_s, cLt_nI (by omega) (by omega), Nat.add_sub_cancel, cNe_nI (by omega) (by omega)]
        by_cases q4 : T ≤ w
        · rw [if_pos q4, df (by omega)]; rfl
        · rw [if_neg q4, dt (by omega)]
          by_cases q5 : p + 3 = n
          · rw [if_pos q5, dt q5]; rfl
          · rw [if_neg q5, df q5]; rfl
theorem cLe_n0 {k : Nat} (h : k < 2147483648) : cLe (nI k) 0 = decide (k ≤ 0) := cLe_nI (b := 0) h (by decide)
theorem cEq_d (a b : Int32) : cEq a b = decide (a = b) := rfl
theorem cNe_d (a b : Int32) : cNe a b = !decide (a = b) := rfl
theorem lookC (hn : n ≤ 60) (hd : ∀ x, x < n → gA σ 18 x = d x) (hW : 2 ≤ W) (hW6 : W ≤ 6) (hT6 : T ≤ 6) (h1 : dgN n d 1 = W + 1) (h2 : dgN n d 2 = T + 1) {e : Nat} (he : e < 50) : ∀ (m f k : Nat), k + m = min W 4 → m < f → L_X2_faultInLookers 18 60 f (nI n) (nI e) (nI (min W 4)) (nI k) σ = some (dv (lookF n d W T e m k), σ) := by
  have body : ∀ k, k ≤ min W 4 → ∀ (R : PS → Option (Int32 × PS)) (r : Nat), (k = min W 4 → r = e + 3 * k + 1) → (k < min W 4 → r = if kdN n d (e + 3 * k + 1) = 0 then e + 3 * k + 2 else if dgN n d (e + 3 * k + 2) = 0 then e + 3 * k + 3 else r) → (k < min W 4 → kdN n d (e + 3 * k + 1) ≠ 0 → dgN n d (e + 3 * k + 2) ≠ 0 → R σ = some (dv r, σ)) → (bif cNe (cdN n d (-1) (e + 3 * k)) 59 then some (nI (e + 3 * k), σ) else (bif cNe (nI k) (nI (min W 4)) then ((F_X2_codeAt 18 60 (nI n) (nI (e + 3 * k + 1)) σ).bind fun q2 => (F_X2_kindOf q2.1 q2.2).bind fun q3 => bif cGe q3.1 0 then ((F_X2_codeAt 18 60 (nI n) (nI (e + 3 * k + 2)) q3.2).bind fun q4 => (F_X2_digitOf q4.1 q4.2).bind fun q5 => bif cGe q5.1 0 then R q5.2 else some (nI (e + 3 * k + 2), q5.2)) else some (nI (e + 3 * k + 1), q3.2)) else some (nI (e + 3 * k), σ))) = some (dv (if isN n d (e + 3 * k) 59 = true then r else e + 3 * k + 1), σ) := by
    intro k hk R r r1 r2 r3
    have z1 := kdv_le (cdN n d (-1) (e + 3 * k + 1))
    have z2 := dgv_le (cdN n d (-1) (e + 3 * k + 2))
    rw [cNe_d]
    unfold isN
    by_cases q : cdN n d (-1) (e + 3 * k) = 59
    · rw [dt q, if_pos rfl]
      refine cnd_f rfl ?_
      rw [cNe_nI (by omega) (by omega)]
      by_cases qk : k = min W 4
      · rw [dt qk, r1 qk]; rfl
      · rw [df qk]
        have hkl : k < min W 4 := by omega
        refine cnd_t rfl (bd (e_codeC hn hd (by omega)) (bd (e_kindOf2 _ σ) ?_))
        dsimp only
        rw [dv_ge _ (by omega), show kdv (cdN n d (-1) (e + 3 * k + 1)) = kdN n d (e + 3 * k + 1) from rfl]
        by_cases q1 : kdN n d (e + 3 * k + 1) = 0
        · rw [dt q1, r2 hkl, if_pos q1]; rfl
        · rw [df q1]
          refine cnd_t rfl (bd (e_codeC hn hd (by omega)) (bd (e_digitOf _ σ) ?_))
          dsimp only
          rw [dv_ge _ (by omega), show dgv (cdN n d (-1) (e + 3 * k + 2)) = dgN n d (e + 3 * k + 2) from rfl]
          by_cases q2 : dgN n d (e + 3 * k + 2) = 0
          · rw [dt q2, r2 hkl, if_neg q1, if_pos q2]; rfl
          · rw [df q2]
            exact cnd_t rfl (r3 hkl q1 q2)
    · rw [df q, if_neg (by decide)]; rfl
  have e3 : ∀ k, nI e + 3 * nI k = nI (e + 3 * k) := fun k => by rw [show (3 : Int32) = nI 3 from rfl, pk_mul, nI_add]
  intro m
  induction m with
  | zero =>
    intro f k hk hf
    obtain ⟨f, rfl⟩ : ∃ f', f = f' + 1 := ⟨f - 1, by omega⟩
    rw [L_X2_faultInLookers, e3]
    refine cnd_f (by rw [cGt_nI (by omega) (by omega)]; exact df (by omega)) (bd (e_codeC hn hd (by omega)) ?_)
    dsimp only
    rw [show (2 : Int32) = nI 2 from rfl, nI_1, nI_add, nI_1, show lookF n d W T e 0 k = if isN n d (e + 3 * k) 47 = true ∧ 0 < k then tailF n d W T (e + 3 * k) k else e + 3 * k + 1 from rfl]
    have hb := fun R => body k (by omega) R (e + 3 * k + 1) (fun _ => rfl) (fun q => by omega) (fun q => by omega)
    simp only [ite_self] at hb
    by_cases q47 : cdN n d (-1) (e + 3 * k) = 47
    · refine cnd_f (by rw [cNe_d, dt q47]; rfl) ?_
      rw [cLe_n0 (by omega)]
      by_cases hk0 : k = 0
      · rw [dt (by omega), if_neg (fun z => by omega)]
        exact hb (fun s => L_X2_faultInLookers 18 60 f (nI n) (nI e) (nI (min W 4)) (nI (k + 1)) s)
      · rw [df (by omega), if_pos ⟨dt q47, by omega⟩]
        exact bd (tailC hn hd hW6 hT6 h1 h2 (by omega) (by omega)) rfl
    · rw [if_neg (fun z => q47 (of_decide_eq_true z.1))]
      refine cnd_t (by rw [cNe_d, df q47]; rfl) ?_
      exact hb (fun s => L_X2_faultInLookers 18 60 f (nI n) (nI e) (nI (min W 4)) (nI (k + 1)) s)
  | succ m ih =>
    intro f k hk hf
    obtain ⟨f, rfl⟩ : ∃ f', f = f' + 1 := ⟨f - 1, by omega⟩
    have ih' := ih f (k + 1) (by omega) (by omega)
    rw [L_X2_faultInLookers, e3]
    refine cnd_f (by rw [cGt_nI (by omega) (by omega)]; exact df (by omega)) (bd (e_codeC hn hd (by omega)) ?_)
    dsimp only
    rw [show (2 : Int32) = nI 2 from rfl, nI_1, nI_add, nI_1, show lookF n d W T e (m + 1) k = if isN n d (e + 3 * k) 47 = true ∧ 0 < k then tailF n d W T (e + 3 * k) k else if isN n d (e + 3 * k) 59 = true then (if kdN n d (e + 3 * k + 1) = 0 then e + 3 * k + 2 else if dgN n d (e + 3 * k + 2) = 0 then e + 3 * k + 3 else lookF n d W T e m (k + 1)) else e + 3 * k + 1 from rfl]
    have hb := body k (by omega) (fun s => L_X2_faultInLookers 18 60 f (nI n) (nI e) (nI (min W 4)) (nI (k + 1)) s) (if kdN n d (e + 3 * k + 1) = 0 then e + 3 * k + 2 else if dgN n d (e + 3 * k + 2) = 0 then e + 3 * k + 3 else lookF n d W T e m (k + 1)) (fun q => by omega) (fun q => by
      by_cases z1 : kdN n d (e + 3 * k + 1) = 0
      · simp only [if_pos z1]
      · by_cases z2 : dgN n d (e + 3 * k + 2) = 0
        · simp only [if_neg z1, if_pos z2]
        · simp only [if_neg z1, if_neg z2]) (fun q z1 z2 => by rw [if_neg z1, if_neg z2]; exact ih')
    by_cases q47 : cdN n d (-1) (e + 3 * k) = 47
    · refine cnd_f (by rw [cNe_d, dt q47]; rfl) ?_
      rw [cLe_n0 (by omega)]
      by_cases hk0 : k = 0
      · rw [dt (by omega), if_neg (fun z => by omega)]
        exact hb
      · rw [df (by omega), if_pos ⟨dt q47, by omega⟩]
        exact bd (tailC hn hd hW6 hT6 h1 h2 (by omega) (by omega)) rfl
    · rw [if_neg (fun z => q47 (of_decide_eq_true z.1))]
      refine cnd_t (by rw [cNe_d, df q47]; rfl) ?_
      exact hb
theorem floorC (hn : n ≤ 60) (hd : ∀ x, x < n → gA σ 18 x = d x) {e r : Nat} (he : e < 50) (hr : F_X2_faultInLookers 18 60 (nI n) (nI e) σ = some (dv r, σ)) : ∀ (m f x : Nat), x + m = e → m < f → L_X2_firstFault 18 60 f (nI n) (nI e) (nI x) σ = some (dv (floorF n d r m x), σ) := by
  intro m
  induction m with
  | zero =>
    intro f x hx hf
    obtain ⟨f, rfl⟩ : ∃ f', f = f' + 1 := ⟨f - 1, by omega⟩
    rw [L_X2_firstFault]
    exact cnd_t (by rw [cGe_nI (by omega) (by omega)]; exact dt (by omega)) (bd hr rfl)
  | succ m ih =>
    intro f x hx hf
    obtain ⟨f, rfl⟩ : ∃ f', f = f' + 1 := ⟨f - 1, by omega⟩
    have z := dgv_le (cdN n d (-1) x)
    rw [L_X2_firstFault, show floorF n d r (m + 1) x = if dgN n d x = 0 then x + 1 else floorF n d r m (x + 1) from rfl]
    refine cnd_f (by rw [cGe_nI (by omega) (by omega)]; exact df (by omega)) (bd (e_codeC hn hd (by omega)) (bd (e_digitOf _ σ) ?_))
    dsimp only
    rw [dv_ge _ (by omega), show dgv (cdN n d (-1) x) = dgN n d x from rfl, nI_1]
    by_cases q : dgN n d x = 0
    · rw [if_pos q, dt q]; rfl
    · rw [if_neg q, df q]; exact ih f (x + 1) (by omega) (by omega)
theorem textC (hn : n ≤ 60) (hd : ∀ x, x < n → gA σ 18 x = d x) : F_X2_firstFault 18 60 (nI n) σ = some (dv (textF n d), σ) := by
  have z1 := dgv_le (cdN n d (-1) 1)
  have z2 := dgv_le (cdN n d (-1) 2)
  have edge : ∀ z, z ≤ 10 → F_X2_isEdge (dv z) σ = some (bI (decide (3 ≤ z ∧ z ≤ 7)), σ) := fun z hz => by
    unfold F_X2_isEdge
    refine bd (e_within (dv z) 2 6 σ) ?_
    rw [dv_edge z (by omega)]
    exact cnd_t (okb_bI _) rfl
  unfold F_X2_firstFault textF
  refine bd (e_codeC (x := 0) hn hd (by decide)) ?_
  dsimp only
  rw [cEq_d, show decide (cdN n d (-1) 0 = 102) = isN n d 0 102 from rfl]
  cases hq : isN n d 0 102 with
  | false => rw [if_neg (by decide)]; rfl
  | true =>
    rw [if_pos rfl]
    refine cnd_t rfl (bd (e_codeC (x := 1) hn hd (by decide)) (bd (e_digitOf _ σ) (bd (edge _ z1) ?_)))
    rw [show dgv (cdN n d (-1) 1) = dgN n d 1 from rfl] at z1 ⊢
    by_cases q1 : 3 ≤ dgN n d 1 ∧ dgN n d 1 ≤ 7
    · rw [if_pos q1]
      refine cnd_t (nt (dt q1)) (bd (e_codeC (x := 2) hn hd (by decide)) (bd (e_digitOf _ σ) (bd (edge _ z2) ?_)))
      rw [show dgv (cdN n d (-1) 2) = dgN n d 2 from rfl] at z2 ⊢
      by_cases q2 : 3 ≤ dgN n d 2 ∧ dgN n d 2 ≤ 7
      · rw [if_pos q2]
        refine cnd_t (nt (dt q2)) ?_
        obtain ⟨W, hW⟩ : ∃ W, dgN n d 1 = W + 1 := ⟨dgN n d 1 - 1, by omega⟩
        obtain ⟨T, hT⟩ : ∃ T, dgN n d 2 = T + 1 := ⟨dgN n d 2 - 1, by omega⟩
        have h36 : W * T ≤ 36 := Nat.le_trans (Nat.mul_le_mul (show W ≤ 6 by omega) (show T ≤ 6 by omega)) (by decide)
        have hl : F_X2_faultInLookers 18 60 (nI n) (nI (3 + W * T)) σ = some (dv (lookF n d W T (3 + W * T) (min W 4) 0), σ) := by
          unfold F_X2_faultInLookers
          refine bd (e_num (x := 1) hn hd (dg_in hW)) (bd (e_digitOf _ σ) ?_)
          dsimp only
          rw [show dgv (cdN n d (-1) 1) = dgN n d 1 from rfl, hW, dv_s, imin_4 W (by omega)]
          have := lookC (T := T) hn hd (by omega) (by omega) (by omega) hW hT (e := 3 + W * T) (by omega) (min W 4) fuelN 0 (Nat.zero_add _) (by unfold fuelN; omega)
          rw [nI_0] at this
          exact this
        have := floorC hn hd (e := 3 + W * T) (by omega) hl (W * T) fuelN 3 (by omega) (by unfold fuelN; omega)
        dsimp only
        rw [hW, hT, dv_s, dv_s, pk_mul, show (3 : Int32) = nI 3 from rfl, nI_add, Nat.add_sub_cancel, Nat.add_sub_cancel]
        exact this
      · rw [if_neg q2]
        exact cnd_f (nf (df q2)) rfl
    · rw [if_neg q1]
      exact cnd_f (nf (df q1)) rfl
end textC
