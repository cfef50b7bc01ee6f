/-! flat: the class' side as sets -/
def adjB (W a b : Nat) : Bool := Nat.beq (abd (a % W) (b % W) + abd (a / W) (b / W)) 1
theorem adj_dec : ∀ ca, ca < 6 → ∀ cb, cb < 6 → ∀ ra, ra < 6 → ∀ rb, rb < 6 → cNe (((nI ca - nI cb) * (nI ca - nI cb)) + ((nI ra - nI rb) * (nI ra - nI rb))) 1 = !Nat.beq (abd ca cb + abd ra rb) 1 := by decide +kernel
theorem beq_iff {a b : Nat} : Nat.beq a b = true ↔ a = b := ⟨Nat.eq_of_beq_eq_true, fun h => by rw [h]; exact Nat.beq_refl b⟩
def cmN (W c : Nat) : Nat → Nat
  | 0 => 0
  | r + 1 => cmN W c r ||| 2 ^ (c + W * r)
theorem cm_iff (W c i : Nat) : ∀ T, (cmN W c T).testBit i = true ↔ ∃ r, r < T ∧ i = c + W * r := by
  intro T
  induction T with
  | zero =>
    constructor
    · intro h
      rw [show cmN W c 0 = 0 from rfl, Nat.zero_testBit] at h
      cases h
    · rintro ⟨r, h, -⟩; omega
  | succ T ih =>
    show (cmN W c T ||| 2 ^ (c + W * T)).testBit i = true ↔ _
    rw [Nat.testBit_or, Nat.testBit_two_pow, Bool.or_eq_true, ih, decide_eq_true_eq]
    constructor
    · rintro (⟨r, h1, h2⟩ | h)
      · exact ⟨r, by omega, h2⟩
      · exact ⟨T, by omega, h.symm⟩
    · rintro ⟨r, h1, h2⟩
      by_cases e : r = T
      · right; rw [h2, e]
      · exact Or.inl ⟨r, by omega, h2⟩
def alN (H : Nat → Nat) (h : Nat) : Nat → Nat
  | 0 => 0
  | i + 1 => bif decide (H i = h) then alN H h i ||| 2 ^ i else alN H h i
theorem al_iff (H : Nat → Nat) (h i : Nat) : ∀ N, (alN H h N).testBit i = true ↔ i < N ∧ H i = h := by
  intro N
  induction N with
  | zero =>
    constructor
    · intro q
      rw [show alN H h 0 = 0 from rfl, Nat.zero_testBit] at q
      cases q
    · rintro ⟨q, -⟩; omega
  | succ N ih =>
    show (bif decide (H N = h) then alN H h N ||| 2 ^ N else alN H h N).testBit i = true ↔ _
    by_cases e : H N = h
    · rw [dt e, cond_true, Nat.testBit_or, Nat.testBit_two_pow, Bool.or_eq_true, ih, decide_eq_true_eq]
      constructor
      · rintro (⟨h1, h2⟩ | h1)
        · exact ⟨by omega, h2⟩
        · exact ⟨by omega, by rw [← h1]; exact e⟩
      · rintro ⟨h1, h2⟩
        by_cases q : N = i
        · exact Or.inr q
        · exact Or.inl ⟨by omega, h2⟩
    · rw [df e, cond_false, ih]
      constructor
      · rintro ⟨h1, h2⟩; exact ⟨by omega, h2⟩
      · rintro ⟨h1, h2⟩
        refine ⟨?_, h2⟩
        rcases Nat.lt_or_ge i N with q | q
        · exact q
        · exact absurd (by rw [show N = i from by omega]; exact h2) e
theorem lt_of_bits {x n : Nat} (h : ∀ i, x.testBit i = true → i < n) : x < 2 ^ n := by
  apply Nat.lt_pow_two_of_testBit
  intro i hi
  cases hb : x.testBit i with
  | false => rfl
  | true => exact absurd (h i hb) (by omega)
theorem bit_lt {x n i : Nat} (hx : x < 2 ^ n) (h : x.testBit i = true) : i < n := by
  rcases Nat.lt_or_ge i n with q | q
  · exact q
  · rw [Nat.testBit_lt_two_pow (Nat.lt_of_lt_of_le hx (Nat.pow_le_pow_right (by decide) q))] at h
    cases h
def bdN (W T S : Nat) : Nat := ((S * 2 ^ W ||| S / 2 ^ W) ||| dif S (cmN W (W - 1) T) * 2 ^ 1) ||| dif S (cmN W 0 T) / 2 ^ 1
theorem dif_bit2 (b a k : Nat) (hb : b < 2 ^ 64) : (dif b a).testBit k = (b.testBit k && !a.testBit k) := by
  rcases Nat.lt_or_ge k 64 with q | q
  · exact dif_bit b a k q
  · have h1 : b.testBit k = false := Nat.testBit_lt_two_pow (Nat.lt_of_lt_of_le hb (Nat.pow_le_pow_right (by decide) q))
    have h2 : (dif b a).testBit k = false := Nat.testBit_lt_two_pow (Nat.lt_of_le_of_lt (dif_le b a) (Nat.lt_of_lt_of_le hb (Nat.pow_le_pow_right (by decide) q)))
    rw [h1, h2]; rfl
theorem bd_iff {W T S b : Nat} (hW : 2 ≤ W) (hN : W * T ≤ 36) (hS : S < 2 ^ (W * T)) (hb : b < W * T) : (bdN W T S).testBit b = true ↔ ∃ a, a < W * T ∧ S.testBit a = true ∧ adjB W a b = true := by
  have hS64 : S < 2 ^ 64 := Nat.lt_of_lt_of_le hS (Nat.pow_le_pow_right (by decide) (by omega))
  have hcb : b % W < W := Nat.mod_lt _ (by omega)
  have hrb : b / W < T := Nat.div_lt_of_lt_mul hb
  have hbb : W * (b / W) + b % W = b := Nat.div_add_mod b W
  have lhs : (bdN W T S).testBit b = true ↔ (((W ≤ b ∧ S.testBit (b - W) = true) ∨ S.testBit (b + W) = true) ∨ (1 ≤ b ∧ S.testBit (b - 1) = true ∧ ¬ ∃ r, r < T ∧ b - 1 = W - 1 + W * r)) ∨ (S.testBit (b + 1) = true ∧ ¬ ∃ r, r < T ∧ b + 1 = 0 + W * r) := by
    unfold bdN
    rw [Nat.testBit_or, Nat.testBit_or, Nat.testBit_or, Nat.testBit_mul_two_pow, Nat.testBit_mul_two_pow, Nat.testBit_div_two_pow, Nat.testBit_div_two_pow, dif_bit2 _ _ _ hS64, dif_bit2 _ _ _ hS64]
    rw [Bool.or_eq_true, Bool.or_eq_true, Bool.or_eq_true, Bool.and_eq_true, Bool.and_eq_true, Bool.and_eq_true, Bool.and_eq_true, decide_eq_true_eq, decide_eq_true_eq, Bool.not_eq_true', Bool.not_eq_true', ← cm_iff, ← cm_iff, Bool.not_eq_true, Bool.not_eq_true]
  rw [lhs]
  constructor
  · rintro (((⟨h1, h2⟩ | h1) | ⟨h1, h2, h3⟩) | ⟨h1, h2⟩)
    · obtain ⟨r, hr⟩ : ∃ r, b / W = r + 1 := by
        cases hq : b / W with
        | zero => rw [hq, Nat.mul_zero] at hbb; omega
        | succ r => exact ⟨r, rfl⟩
      rw [hr, Nat.mul_succ] at hbb
      have ha : b - W = W * r + b % W := by omega
      refine ⟨b - W, by omega, h2, ?_⟩
      unfold adjB
      rw [ha, q_mod hcb, q_div hcb, hr, beq_iff]
      unfold abd; omega
    · have hl := bit_lt hS h1
      have ha : b + W = W * (b / W + 1) + b % W := by rw [Nat.mul_succ]; omega
      refine ⟨b + W, hl, h1, ?_⟩
      unfold adjB
      rw [ha, q_mod hcb, q_div hcb, beq_iff]
      unfold abd; omega
    · have hc0 : 0 < b % W := by
        rcases Nat.eq_zero_or_pos (b % W) with q | q
        · exfalso
          apply h3
          obtain ⟨r, hr⟩ : ∃ r, b / W = r + 1 := by
            cases hq : b / W with
            | zero => rw [hq, Nat.mul_zero] at hbb; omega
            | succ r => exact ⟨r, rfl⟩
          rw [hr, Nat.mul_succ] at hbb
          exact ⟨r, by omega, by omega⟩
        · exact q
      have ha : b - 1 = W * (b / W) + (b % W - 1) := by omega
      refine ⟨b - 1, by omega, h2, ?_⟩
      unfold adjB
      rw [ha, q_mod (by omega), q_div (by omega), beq_iff]
      unfold abd; omega
    · have hl := bit_lt hS h1
      have hc0 : b % W + 1 < W := by
        rcases Nat.lt_or_ge (b % W + 1) W with q | q
        · exact q
        · exfalso
          apply h2
          have e : b + 1 = W * (b / W + 1) := by rw [Nat.mul_succ]; omega
          refine ⟨b / W + 1, ?_, by omega⟩
          rcases Nat.lt_or_ge (b / W + 1) T with z | z
          · exact z
          · have := Nat.mul_le_mul_left W z
            omega
      have ha : b + 1 = W * (b / W) + (b % W + 1) := by omega
      refine ⟨b + 1, hl, h1, ?_⟩
      unfold adjB
      rw [ha, q_mod hc0, q_div hc0, beq_iff]
      unfold abd; omega
  · rintro ⟨a, ha, hs, hadj⟩
    unfold adjB at hadj
    rw [beq_iff] at hadj
    have hca : a % W < W := Nat.mod_lt _ (by omega)
    have haa : W * (a / W) + a % W = a := Nat.div_add_mod a W
    generalize a % W = ca at hca haa hadj
    generalize a / W = ra at haa hadj
    generalize b % W = cb at hcb hbb hadj
    generalize b / W = rb at hrb hbb hadj
    unfold abd at hadj
    have h4 : (ca = cb ∧ ra = rb + 1) ∨ (ca = cb ∧ rb = ra + 1) ∨ (ra = rb ∧ ca = cb + 1) ∨ (ra = rb ∧ cb = ca + 1) := by omega
    rcases h4 with ⟨rfl, rfl⟩ | ⟨rfl, rfl⟩ | ⟨rfl, rfl⟩ | ⟨rfl, rfl⟩
    · rw [Nat.mul_succ] at haa
      exact Or.inl (Or.inl (Or.inr (by rw [show b + W = a from by omega]; exact hs)))
    · rw [Nat.mul_succ] at hbb
      exact Or.inl (Or.inl (Or.inl ⟨by omega, by rw [show b - W = a from by omega]; exact hs⟩))
    · refine Or.inr ⟨by rw [show b + 1 = a from by omega]; exact hs, ?_⟩
      rintro ⟨r, -, h2⟩
      have : W * ra + (cb + 1) = W * r + 0 := by omega
      have := (cell_inj hca (by omega) this).1
      omega
    · refine Or.inl (Or.inr ⟨by omega, by rw [show b - 1 = a from by omega]; exact hs, ?_⟩)
      rintro ⟨r, -, h2⟩
      have : W * ra + ca = W * r + (W - 1) := by omega
      have := (cell_inj hca (by omega) this).1
      omega
/-- one turn -/
def stN (W T al S : Nat) : Nat := S ||| (bdN W T S &&& al)
def itN (W T al : Nat) : Nat → Nat → Nat
  | 0, S => S
  | m + 1, S => itN W T al m (stN W T al S)
theorem st_lt {W T al S : Nat} (hal : al < 2 ^ (W * T)) (hS : S < 2 ^ (W * T)) : stN W T al S < 2 ^ (W * T) := Nat.or_lt_two_pow hS (Nat.and_lt_two_pow _ hal)
theorem cmC_run {A : AS} {σ : PS} (hW : WF A) (hC : RC A σ) {c : Nat} (hc : c < 6) : ∀ (m f r : Nat), r + m = aT A → m < f → L_X1_cellsOfColumn f (nI c) (lN (cmN (aW A) c r)) (nI r) σ = some (lN (cmN (aW A) c (aT A)), σ) := by
  have hb := wf_b hW
  intro m
  induction m with
  | zero =>
    intro f r hr hf
    obtain ⟨f, rfl⟩ : ∃ f', f = f' + 1 := ⟨f - 1, by omega⟩
    rw [L_X1_cellsOfColumn, show r = aT A from by omega]
    exact cnd_t (by rw [hC.1.2.1, cGe_nI (by omega) (by omega)]; exact dt (by omega)) rfl
  | succ m ih =>
    intro f r hr hf
    obtain ⟨f, rfl⟩ : ∃ f', f = f' + 1 := ⟨f - 1, by omega⟩
    have h1 : aW A * r ≤ 36 := Nat.le_trans (Nat.mul_le_mul_left _ (by omega)) hb.2.2.2.1
    rw [L_X1_cellsOfColumn]
    refine cnd_f (by rw [hC.1.2.1, cGe_nI (by omega) (by omega)]; exact df (by omega)) ?_
    rw [hC.1.1, pk_mul, nI_add, show (1 : Int64) = lN 1 from rfl, lshl_n _ (by omega), Nat.one_mul, fb_orL, nI_1]
    exact ih f (r + 1) (by omega) (by omega)
theorem e_cm {A : AS} {σ : PS} (hW : WF A) (hC : RC A σ) {c : Nat} (hc : c < 6) : F_X1_cellsOfColumn (nI c) σ = some (lN (cmN (aW A) c (aT A)), σ) := by
  have e := cmC_run hW hC hc (aT A) fuelN 0 (by omega) (by have := wf_b hW; unfold fuelN; omega)
  rw [show lN (cmN (aW A) c 0) = 0 from rfl, nI_0] at e
  exact e
theorem e_bd {A : AS} {σ : PS} (hW : WF A) (hn : aW A ≠ 0) (hC : RC A σ) {S : Nat} (hS : S < 2 ^ (aW A * aT A)) : F_X1_bordering (lN S) σ = some (lN (bdN (aW A) (aT A) S), σ) := by
  have hb := wf_b hW
  have hw := wf_n hW hn
  have hS64 : S < 2 ^ 64 := Nat.lt_of_lt_of_le hS (Nat.pow_le_pow_right (by decide) (by omega))
  have hd : dif S (cmN (aW A) 0 (aT A)) < 2 ^ 64 := Nat.lt_of_le_of_lt (dif_le _ _) hS64
  unfold F_X1_bordering
  rw [hC.1.1, show (1 : Int32) = nI 1 from rfl, pk_sub (by omega)]
  refine bd (e_cm hW hC (by omega)) (bd (e_cm (c := 0) hW hC (by decide)) ?_)
  dsimp only
  rw [hC.1.1, dif_L, dif_L, lshl_n _ (by omega), lushr_n hS64 (by omega), lshl_n _ (by decide), lushr_n hd (by decide), fb_orL, fb_orL, fb_orL]
  rfl
theorem fw_run {A : AS} {σ : PS} (hW : WF A) (hn : aW A ≠ 0) (hC : RC A σ) {al : Nat} (hal : al < 2 ^ (aW A * aT A)) : ∀ (m f t S : Nat), t + m = aW A * aT A → m < f → S < 2 ^ (aW A * aT A) → L_X1_flatWith f (lN al) (lN S) (nI t) σ = some (lN (itN (aW A) (aT A) al m S), σ) := by
  have hb := wf_b hW
  intro m
  induction m with
  | zero =>
    intro f t S ht hf hS
    obtain ⟨f, rfl⟩ : ∃ f', f = f' + 1 := ⟨f - 1, by omega⟩
    rw [L_X1_flatWith]
    refine bd (e_cells hC) (cnd_t ?_ rfl)
    dsimp only
    rw [cGe_nI (by omega) (by omega)]; exact dt (by omega)
  | succ m ih =>
    intro f t S ht hf hS
    obtain ⟨f, rfl⟩ : ∃ f', f = f' + 1 := ⟨f - 1, by omega⟩
    rw [L_X1_flatWith]
    refine bd (e_cells hC) (cnd_f ?_ (bd (e_bd hW hn hC hS) ?_))
    · dsimp only
      rw [cGe_nI (by omega) (by omega)]; exact df (by omega)
    · dsimp only
      rw [fb_andL, fb_orL, nI_1]
      exact ih f (t + 1) _ (by omega) (by omega) (st_lt hal hS)
theorem alC_run {A : AS} {σ : PS} (hW : WF A) (hC : RC A σ) {h : Nat} (hh : h ≤ 9) : ∀ (m f i : Nat), i + m = aW A * aT A → m < f → L_X1_cellsOfHeight f (nI h) (lN (alN (aH A) h i)) (nI i) σ = some (lN (alN (aH A) h (aW A * aT A)), σ) := by
  have hb := wf_b hW
  intro m
  induction m with
  | zero =>
    intro f i hi hf
    obtain ⟨f, rfl⟩ : ∃ f', f = f' + 1 := ⟨f - 1, by omega⟩
    rw [L_X1_cellsOfHeight]
    refine bd (e_cells hC) (cnd_t ?_ ?_)
    · dsimp only
      rw [cGe_nI (by omega) (by omega)]; exact dt (by omega)
    · rw [show i = aW A * aT A from by omega]
  | succ m ih =>
    intro f i hi hf
    obtain ⟨f, rfl⟩ : ∃ f', f = f' + 1 := ⟨f - 1, by omega⟩
    have hH := hW.2.1.1 i (by omega)
    have ih' := ih f (i + 1) (by omega) (by omega)
    rw [show alN (aH A) h (i + 1) = bif decide (aH A i = h) then alN (aH A) h i ||| 2 ^ i else alN (aH A) h i from rfl] at ih'
    rw [L_X1_cellsOfHeight]
    refine bd (e_cells hC) (cnd_f ?_ (bd (e_heightOf hW hC (by omega)) ?_))
    · dsimp only
      rw [cGe_nI (by omega) (by omega)]; exact df (by omega)
    · dsimp only
      rw [cNe_nI (by omega) (by omega), show (1 : Int64) = lN 1 from rfl, lshl_n _ (by omega), Nat.one_mul, fb_orL, nI_1]
      by_cases e : aH A i = h
      · rw [dt e] at ih' ⊢; exact ih'
      · rw [df e] at ih' ⊢; exact ih'
theorem al_lt (H : Nat → Nat) (h N : Nat) : alN H h N < 2 ^ N := lt_of_bits fun i hi => ((al_iff H h i N).mp hi).1
theorem e_flatWith {A : AS} {σ : PS} (hW : WF A) (hn : aW A ≠ 0) (hC : RC A σ) {c : Nat} (hc : c < aW A * aT A) : F_X1_flatWith (nI c) σ = some (lN (itN (aW A) (aT A) (alN (aH A) (aH A c) (aW A * aT A)) (aW A * aT A) (2 ^ c)), σ) := by
  have hb := wf_b hW
  have e1 := alC_run hW hC (h := aH A c) (hW.2.1.1 c hc) (aW A * aT A) fuelN 0 (by omega) (by unfold fuelN; omega)
  rw [show lN (alN (aH A) (aH A c) 0) = 0 from rfl, nI_0] at e1
  have e2 := fw_run hW hn hC (al_lt (aH A) (aH A c) (aW A * aT A)) (aW A * aT A) fuelN 0 (2 ^ c) (by omega) (by unfold fuelN; omega) (Nat.pow_lt_pow_right (by decide) hc)
  rw [nI_0] at e2
  unfold F_X1_flatWith
  refine bd (e_heightOf hW hC hc) (bd (r := F_X1_cellsOfHeight _ _) e1 ?_)
  dsimp only
  rw [show (1 : Int64) = lN 1 from rfl, lshl_n _ (by omega), Nat.one_mul]
  exact e2
