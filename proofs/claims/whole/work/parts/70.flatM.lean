/-! flat: the model's side, and the pair -/
def adE (E : Nat → Nat → Bool) (a b X : Nat) : Nat := bif X.testBit a && E a b then X ||| 2 ^ b else X
def lbE (E : Nat → Nat → Bool) (a : Nat) : Nat → Nat → Nat → Nat
  | 0, _, X => X
  | m + 1, b, X => lbE E a m (b + 1) (adE E a b X)
def laE (E : Nat → Nat → Bool) (N : Nat) : Nat → Nat → Nat → Nat
  | 0, _, X => X
  | m + 1, a, X => laE E N m (a + 1) (lbE E a N 0 X)
def lxE (E : Nat → Nat → Bool) (N : Nat) : Nat → Nat → Nat
  | 0, X => X
  | m + 1, X => lxE E N m (laE E N N 0 X)
def subN (X Z : Nat) : Prop := ∀ i, X.testBit i = true → Z.testBit i = true
theorem subN.rf {X : Nat} : subN X X := fun _ h => h
theorem subN.tr {X Y Z : Nat} (h : subN X Y) (h2 : subN Y Z) : subN X Z := fun i q => h2 i (h i q)
theorem subN_anti {X Y : Nat} (h : subN X Y) (h2 : subN Y X) : X = Y := by
  apply Nat.eq_of_testBit_eq
  intro i
  rw [Bool.eq_iff_iff]
  exact ⟨h i, h2 i⟩
theorem ad_up (E : Nat → Nat → Bool) (a b X : Nat) : subN X (adE E a b X) := by
  intro i h
  unfold adE
  cases X.testBit a && E a b with
  | true => rw [cond_true, Nat.testBit_or, h]; rfl
  | false => exact h
theorem ad_in (E : Nat → Nat → Bool) {a b X Z : Nat} (h : subN X Z) (hc : Z.testBit a = true → E a b = true → Z.testBit b = true) : subN (adE E a b X) Z := by
  intro i
  unfold adE
  cases hq : X.testBit a && E a b with
  | false => exact h i
  | true =>
    rw [Bool.and_eq_true] at hq
    rw [cond_true, Nat.testBit_or, Nat.testBit_two_pow, Bool.or_eq_true, decide_eq_true_eq]
    rintro (q | q)
    · exact h i q
    · rw [← q]; exact hc (h a hq.1) hq.2
theorem ad_has (E : Nat → Nat → Bool) {a b X : Nat} (h1 : X.testBit a = true) (h2 : E a b = true) : (adE E a b X).testBit b = true := by
  unfold adE
  rw [h1, h2, show (bif true && true then X ||| 2 ^ b else X) = X ||| 2 ^ b from rfl, Nat.testBit_or, Nat.testBit_two_pow]
  simp
theorem lb_up (E : Nat → Nat → Bool) (a : Nat) : ∀ m b X, subN X (lbE E a m b X) := by
  intro m
  induction m with
  | zero => intro b X; exact subN.rf
  | succ m ih => intro b X; exact (ad_up E a b X).tr (ih (b + 1) _)
theorem lb_in (E : Nat → Nat → Bool) (a N : Nat) {Z : Nat} (hc : ∀ b, b < N → Z.testBit a = true → E a b = true → Z.testBit b = true) : ∀ m b X, b + m = N → subN X Z → subN (lbE E a m b X) Z := by
  intro m
  induction m with
  | zero => intro b X _ h; exact h
  | succ m ih => intro b X hb h; exact ih (b + 1) _ (by omega) (ad_in E h (hc b (by omega)))
theorem lb_has (E : Nat → Nat → Bool) {a y : Nat} (h2 : E a y = true) : ∀ m b X, b ≤ y → y < b + m → X.testBit a = true → (lbE E a m b X).testBit y = true := by
  intro m
  induction m with
  | zero => intro b X h1 h2; omega
  | succ m ih =>
    intro b X h1 h3 ha
    by_cases e : y = b
    · subst e
      exact lb_up E a m (y + 1) _ y (ad_has E ha h2)
    · exact ih (b + 1) _ (by omega) (by omega) (ad_up E a b X a ha)
theorem la_up (E : Nat → Nat → Bool) (N : Nat) : ∀ m a X, subN X (laE E N m a X) := by
  intro m
  induction m with
  | zero => intro b X; exact subN.rf
  | succ m ih => intro a X; exact (lb_up E a N 0 X).tr (ih (a + 1) _)
theorem la_in (E : Nat → Nat → Bool) (N : Nat) {Z : Nat} (hc : ∀ a, a < N → ∀ b, b < N → Z.testBit a = true → E a b = true → Z.testBit b = true) : ∀ m a X, a + m = N → subN X Z → subN (laE E N m a X) Z := by
  intro m
  induction m with
  | zero => intro b X _ h; exact h
  | succ m ih => intro a X ha h; exact ih (a + 1) _ (by omega) (lb_in E a N (hc a (by omega)) N 0 X (Nat.zero_add N) h)
theorem la_has (E : Nat → Nat → Bool) {N x y : Nat} (h2 : E x y = true) (hy : y < N) : ∀ m a X, a ≤ x → x < a + m → X.testBit x = true → (laE E N m a X).testBit y = true := by
  intro m
  induction m with
  | zero => intro b X h1 h2; omega
  | succ m ih =>
    intro a X h1 h3 ha
    by_cases e : x = a
    · subst e
      exact la_up E N m (x + 1) _ y (lb_has E h2 N 0 X (Nat.zero_le _) (by omega) ha)
    · exact ih (a + 1) _ (by omega) (by omega) (lb_up E a N 0 X x ha)
theorem lx_in (E : Nat → Nat → Bool) (N : Nat) {Z : Nat} (hc : ∀ a, a < N → ∀ b, b < N → Z.testBit a = true → E a b = true → Z.testBit b = true) : ∀ m X, subN X Z → subN (lxE E N m X) Z := by
  intro m
  induction m with
  | zero => intro X h; exact h
  | succ m ih => intro X h; exact ih _ (la_in E N hc N 0 X (Nat.zero_add N) h)
/-- the edges of a FLAT -/
def edE (W : Nat) (H : Nat → Nat) (h a b : Nat) : Bool := adjB W a b && decide (H b = h)
theorem st_iff {W T S b : Nat} {H : Nat → Nat} {h : Nat} (hW : 2 ≤ W) (hN : W * T ≤ 36) (hS : S < 2 ^ (W * T)) : (stN W T (alN H h (W * T)) S).testBit b = true ↔ S.testBit b = true ∨ (b < W * T ∧ ∃ a, a < W * T ∧ S.testBit a = true ∧ edE W H h a b = true) := by
  unfold stN edE
  rw [Nat.testBit_or, Nat.testBit_and, Bool.or_eq_true, Bool.and_eq_true, al_iff]
  constructor
  · rintro (h1 | ⟨h1, h2, h3⟩)
    · exact Or.inl h1
    · obtain ⟨a, z1, z2, z3⟩ := (bd_iff hW hN hS h2).mp h1
      exact Or.inr ⟨h2, a, z1, z2, by rw [z3, dt h3]; rfl⟩
  · rintro (h1 | ⟨h1, a, z1, z2, z3⟩)
    · exact Or.inl h1
    · rw [Bool.and_eq_true, decide_eq_true_eq] at z3
      exact Or.inr ⟨(bd_iff hW hN hS h1).mpr ⟨a, z1, z2, z3.1⟩, h1, z3.2⟩
theorem it_add (W T al : Nat) : ∀ m S, itN W T al (m + 1) S = stN W T al (itN W T al m S) := by
  intro m
  induction m with
  | zero => intro S; rfl
  | succ m ih => intro S; exact ih (stN W T al S)
theorem it_lt {W T al : Nat} (hal : al < 2 ^ (W * T)) : ∀ m S, S < 2 ^ (W * T) → itN W T al m S < 2 ^ (W * T) := by
  intro m
  induction m with
  | zero => intro S h; exact h
  | succ m ih => intro S h; exact ih _ (st_lt hal h)
theorem ct_lt {p q : Nat → Bool} : ∀ {n : Nat}, (∀ k, k < n → p k = true → q k = true) → (∃ k, k < n ∧ p k = false ∧ q k = true) → fb_ct p n < fb_ct q n := by
  intro n
  induction n with
  | zero => rintro - ⟨k, h, -⟩; omega
  | succ n ih =>
    rintro h ⟨k, h1, h2, h3⟩
    have hs := h n (by omega)
    rw [fb_ct_succ, fb_ct_succ]
    by_cases e : k = n
    · subst e
      have := fb_ct_sub (p := p) (q := q) (n := k) (fun j hj => h j (by omega))
      rw [h2, h3]
      simp only [Bool.false_eq_true, if_false, if_true]
      omega
    · have := ih (fun j hj => h j (by omega)) ⟨k, by omega, h2, h3⟩
      cases hp : p n <;> cases hq : q n <;> simp_all <;> omega
/-- a growing row of sets stands still behind N turns -/
theorem it_fix {W T al : Nat} (hal : al < 2 ^ (W * T)) {S : Nat} (hS : S < 2 ^ (W * T)) : stN W T al (itN W T al (W * T) S) = itN W T al (W * T) S := by
  have up : ∀ X, subN X (stN W T al X) := fun X i h => by unfold stN; rw [Nat.testBit_or, h]; rfl
  have key : ∀ m, (∃ t, t < m ∧ stN W T al (itN W T al t S) = itN W T al t S) ∨ m ≤ fb_ct (fun k => (itN W T al m S).testBit k) (W * T) := by
    intro m
    induction m with
    | zero => exact Or.inr (Nat.zero_le _)
    | succ m ih =>
      rcases ih with ⟨t, h1, h2⟩ | h
      · exact Or.inl ⟨t, by omega, h2⟩
      · by_cases e : stN W T al (itN W T al m S) = itN W T al m S
        · exact Or.inl ⟨m, by omega, e⟩
        · right
          rw [it_add]
          have hlt : fb_ct (fun k => (itN W T al m S).testBit k) (W * T) < fb_ct (fun k => (stN W T al (itN W T al m S)).testBit k) (W * T) := by
            refine ct_lt (fun k _ => up _ k) ?_
            apply Classical.byContradiction
            intro hno
            apply e
            refine (subN_anti (up _) fun i hi => ?_).symm
            have hi2 := bit_lt (st_lt hal (it_lt hal m S hS)) hi
            cases hb : (itN W T al m S).testBit i with
            | true => rfl
            | false => exact absurd ⟨i, hi2, hb, hi⟩ hno
          omega
  have stay : ∀ j t, stN W T al (itN W T al t S) = itN W T al t S → itN W T al (t + j) S = itN W T al t S := by
    intro j
    induction j with
    | zero => intro t _; rfl
    | succ j ih =>
      intro t h
      rw [show t + (j + 1) = (t + j) + 1 from rfl, it_add, ih t h, h]
  rcases key (W * T + 1) with ⟨t, h1, h2⟩ | h
  · have := stay (W * T - t) t h2
    rw [show t + (W * T - t) = W * T from by omega] at this
    rw [this, h2]
  · have := fb_ct_le (fun k => (itN W T al (W * T + 1) S).testBit k) (W * T)
    omega
theorem flat_eq {W T c : Nat} {H : Nat → Nat} (hW : 2 ≤ W) (hN : W * T ≤ 36) (hc : c < W * T) : lxE (edE W H (H c)) (W * T) (W * T) (2 ^ c) = itN W T (alN H (H c) (W * T)) (W * T) (2 ^ c) := by
  have hal := al_lt H (H c) (W * T)
  have hS : 2 ^ c < 2 ^ (W * T) := Nat.pow_lt_pow_right (by decide) hc
  have hlt := it_lt hal (W * T) (2 ^ c) hS
  have hfix := it_fix hal hS
  have upS : ∀ m X, subN X (itN W T (alN H (H c) (W * T)) m X) := by
    intro m
    induction m with
    | zero => intro X; exact subN.rf
    | succ m ih =>
      intro X
      have h1 : subN X (stN W T (alN H (H c) (W * T)) X) := fun i h => by unfold stN; rw [Nat.testBit_or, h]; rfl
      exact h1.tr (ih _)
  refine subN_anti (lx_in _ _ (fun a ha b hb h1 h2 => ?_) _ _ (upS _ _)) ?_
  · rw [← hfix]
    exact (st_iff hW hN hlt).mpr (Or.inr ⟨hb, a, ha, h1, h2⟩)
  · have main : ∀ m X Y, X < 2 ^ (W * T) → subN X Y → subN (itN W T (alN H (H c) (W * T)) m X) (lxE (edE W H (H c)) (W * T) m Y) := by
      intro m
      induction m with
      | zero => intro X Y _ h; exact h
      | succ m ih =>
        intro X Y hX h
        refine ih _ _ (st_lt hal hX) fun i hi => ?_
        rcases (st_iff hW hN hX).mp hi with q | ⟨q1, a, q2, q3, q4⟩
        · exact la_up _ _ _ _ _ i (h i q)
        · exact la_has _ q4 q1 (W * T) 0 Y (Nat.zero_le _) (by omega) (h a q3)
    exact main (W * T) _ _ hS subN.rf
theorem e_adj {A : AS} {σ : PS} (hW : WF A) (hn : aW A ≠ 0) (hM : RM A σ) {a b : Nat} (ha : a < aW A * aT A) (hb : b < aW A * aT A) : F_X5_areBeside (nI a) (nI b) σ = some (bI (adjB (aW A) a b), σ) := by
  have hbb := wf_b hW
  have hw := wf_n hW hn
  have h0 : decide (nI (aW A) = 0) = false := (cEq_nI (b := 0) (by omega) (by decide)).trans (df (by omega))
  have a1 : a % aW A < aW A := Nat.mod_lt _ (by omega)
  have b1 : b % aW A < aW A := Nat.mod_lt _ (by omega)
  have a2 : a / aW A < aT A := Nat.div_lt_of_lt_mul ha
  have b2 : b / aW A < aT A := Nat.div_lt_of_lt_mul hb
  unfold F_X5_areBeside adjB
  rw [hM.1.1, h0]
  refine cnd_f rfl (cnd_f rfl (cnd_f rfl (cnd_f rfl ?_)))
  unfold irem
  rw [pk_rem (by omega) (by omega) (by omega), pk_rem (by omega) (by omega) (by omega), pk_div (by omega) (by omega) (by omega), pk_div (by omega) (by omega) (by omega)]
  generalize a % aW A = ca at a1 ⊢
  generalize a / aW A = ra at a2 ⊢
  generalize b % aW A = cb at b1 ⊢
  generalize b / aW A = rb at b2 ⊢
  rw [adj_dec ca (by omega) cb (by omega) ra (by omega) rb (by omega)]
  cases Nat.beq (abd ca cb + abd ra rb) 1 <;> rfl
theorem smod_k : ∀ k, k < 64 → (((nI k).toInt64 &&& 63 : Int64).toBitVec.smod 64).toNat = k := by decide +kernel
theorem lshr_n {n k : Nat} (hn : n < 2 ^ 62) (hk : k < 64) : lshr (lN n) (nI k) = lN (n / 2 ^ k) := by
  unfold lshr
  exact pf_shr (smod_k k hk) hn
theorem bitM {X a : Nat} (hX : X < 2 ^ 62) (ha : a < 64) : cNe (lg_cmp ((lshr (lN X) (nI a)) &&& 1) 1) 0 = !X.testBit a := by
  have hd : X / 2 ^ a < 2 ^ 62 := Nat.lt_of_le_of_lt (Nat.div_le_self _ _) hX
  rw [lshr_n hX ha, lodd hd, Nat.testBit_eq_decide_div_mod_eq]
  by_cases q : X / 2 ^ a % 2 = 0
  · rw [dt q, df (by omega)]; rfl
  · rw [df q, dt (by omega)]; rfl
theorem ad_lt {E : Nat → Nat → Bool} {a b X N : Nat} (hX : X < 2 ^ N) (hb : b < N) : adE E a b X < 2 ^ N := by
  unfold adE
  cases X.testBit a && E a b with
  | false => exact hX
  | true => exact Nat.or_lt_two_pow hX (Nat.pow_lt_pow_right (by decide) hb)
theorem flb_run {A : AS} {σ : PS} (hW : WF A) (hn : aW A ≠ 0) (hM : RM A σ) {c a : Nat} (hc : c < aW A * aT A) (ha : a < aW A * aT A) (x4 : Int32) : ∀ (m g b X : Nat), b + m = aW A * aT A → X < 2 ^ (aW A * aT A) → L_X5_flat (g + m + 1) 51 (nI c) (lN X) x4 (nI a) (nI b) σ = L_X5_flat g 34 (nI c) (lN (lbE (edE (aW A) (aH A) (aH A c)) a m b X)) x4 (nI (a + 1)) 0 σ ∧ lbE (edE (aW A) (aH A) (aH A c)) a m b X < 2 ^ (aW A * aT A) := by
  have hb := wf_b hW
  have hw := wf_n hW hn
  intro m
  induction m with
  | zero =>
    intro g b X hbm hX
    refine ⟨?_, hX⟩
    rw [show g + 0 + 1 = g + 1 from rfl, L_X5_flat]
    refine cnd_f (by decide) (cnd_f (by decide) (cnd_t (by decide) (cnd_t ?_ ?_)))
    · rw [hM.1.1, hM.1.2.1, pk_mul, cGe_nI (by omega) (by omega)]; exact dt (by omega)
    · rw [nI_1]; rfl
  | succ m ih =>
    intro g b X hbm hX
    have hX62 : X < 2 ^ 62 := Nat.lt_of_lt_of_le hX (Nat.pow_le_pow_right (by decide) (by omega))
    obtain ⟨e1, e2⟩ := ih g (b + 1) (adE (edE (aW A) (aH A) (aH A c)) a b X) (by omega) (ad_lt hX (by omega))
    refine ⟨?_, e2⟩
    have hHb := hW.2.1.1 b (by omega)
    have hHc := hW.2.1.1 c hc
    rw [show lbE (edE (aW A) (aH A) (aH A c)) a (m + 1) b X = lbE (edE (aW A) (aH A) (aH A c)) a m (b + 1) (adE (edE (aW A) (aH A) (aH A c)) a b X) from rfl, ← e1, show g + (m + 1) + 1 = (g + m + 1) + 1 from rfl, L_X5_flat]
    refine cnd_f (by decide) (cnd_f (by decide) (cnd_t (by decide) (cnd_f ?_ ?_)))
    · rw [hM.1.1, hM.1.2.1, pk_mul, cGe_nI (by omega) (by omega)]; exact df (by omega)
    · rw [bitM hX62 (by omega), show (0 : Int64) = lN 0 from rfl, fb_orL, Nat.or_zero, nI_1]
      unfold adE edE
      cases X.testBit a with
      | false => rw [Bool.false_and, cond_false]; exact cnd_t rfl rfl
      | true =>
        rw [Bool.true_and]
        refine cnd_f rfl (bd (e_adj hW hn hM ha (by omega)) ?_)
        cases adjB (aW A) a b with
        | false => rw [Bool.false_and, cond_false]; exact cnd_t (ef rfl) rfl
        | true =>
          rw [Bool.true_and]
          refine cnd_f (et rfl) (cnd_t (vin_of_lt (by omega) (by decide)) (cnd_t (vin_of_lt (by omega) (by decide)) ?_))
          dsimp only
          rw [tn (by omega), tn (by omega), hM.2.1.1 b (by omega), hM.2.1.1 c hc, cNe_nI (by omega) (by omega), show (1 : Int64) = lN 1 from rfl, lshl_n _ (by omega), Nat.one_mul, fb_orL]
          by_cases q : aH A b = aH A c
          · rw [dt q]; rfl
          · rw [df q]; rfl
theorem fla_run {A : AS} {σ : PS} (hW : WF A) (hn : aW A ≠ 0) (hM : RM A σ) {c : Nat} (hc : c < aW A * aT A) (x4 : Int32) : ∀ (m f a X : Nat), a + m = aW A * aT A → 38 * m + 1 ≤ f → X < 2 ^ (aW A * aT A) → ∃ g, f ≤ g + 38 * m + 1 ∧ L_X5_flat f 34 (nI c) (lN X) x4 (nI a) 0 σ = L_X5_flat g 17 (nI c) (lN (laE (edE (aW A) (aH A) (aH A c)) (aW A * aT A) m a X)) (x4 + 1) 0 0 σ ∧ laE (edE (aW A) (aH A) (aH A c)) (aW A * aT A) m a X < 2 ^ (aW A * aT A) := by
  have hb := wf_b hW
  have hw := wf_n hW hn
  intro m
  induction m with
  | zero =>
    intro f a X ham hf hX
    obtain ⟨f, rfl⟩ : ∃ f', f = f' + 1 := ⟨f - 1, by omega⟩
    refine ⟨f, by omega, ?_, hX⟩
    rw [L_X5_flat]
    refine cnd_f (by decide) (cnd_t (by decide) (cnd_t ?_ rfl))
    rw [hM.1.1, hM.1.2.1, pk_mul, cGe_nI (by omega) (by omega)]; exact dt (by omega)
  | succ m ih =>
    intro f a X ham hf hX
    obtain ⟨g, rfl⟩ : ∃ g, f = (g + (aW A * aT A) + 1) + 1 := ⟨f - (aW A * aT A) - 2, by omega⟩
    obtain ⟨e1, h1⟩ := flb_run hW hn hM hc (a := a) (by omega) x4 (aW A * aT A) g 0 X (Nat.zero_add _) hX
    obtain ⟨g2, hg, e2, h2⟩ := ih g (a + 1) _ (by omega) (by omega) h1
    refine ⟨g2, by omega, ?_, h2⟩
    rw [show laE (edE (aW A) (aH A) (aH A c)) (aW A * aT A) (m + 1) a X = laE (edE (aW A) (aH A) (aH A c)) (aW A * aT A) m (a + 1) (lbE (edE (aW A) (aH A) (aH A c)) a (aW A * aT A) 0 X) from rfl, ← e2, ← e1, nI_0, L_X5_flat]
    refine cnd_f (by decide) (cnd_t (by decide) (cnd_f ?_ rfl))
    rw [hM.1.1, hM.1.2.1, pk_mul, cGe_nI (by omega) (by omega)]; exact df (by omega)
theorem flx_run {A : AS} {σ : PS} (hW : WF A) (hn : aW A ≠ 0) (hM : RM A σ) {c : Nat} (hc : c < aW A * aT A) : ∀ (m f x X : Nat), x + m = aW A * aT A → 1400 * m + 1 ≤ f → X < 2 ^ (aW A * aT A) → L_X5_flat f 17 (nI c) (lN X) (nI x) 0 0 σ = some (nI (popN 40 (lxE (edE (aW A) (aH A) (aH A c)) (aW A * aT A) m X)), σ) := by
  have hb := wf_b hW
  have hw := wf_n hW hn
  intro m
  induction m with
  | zero =>
    intro f x X hxm hf hX
    obtain ⟨f, rfl⟩ : ∃ f', f = f' + 1 := ⟨f - 1, by omega⟩
    have h40 : X < 2 ^ 40 := Nat.lt_of_lt_of_le hX (Nat.pow_le_pow_right (by decide) (by omega))
    rw [L_X5_flat]
    refine cnd_t (by decide) (cnd_t ?_ (bd (e_bits h40 σ) rfl))
    rw [hM.1.1, hM.1.2.1, pk_mul, cGe_nI (by omega) (by omega)]; exact dt (by omega)
  | succ m ih =>
    intro f x X hxm hf hX
    obtain ⟨f, rfl⟩ : ∃ f', f = f' + 1 := ⟨f - 1, by omega⟩
    obtain ⟨g, hg, e1, h1⟩ := fla_run hW hn hM hc (nI x) (aW A * aT A) f 0 X (Nat.zero_add _) (by omega) hX
    have e2 := ih g (x + 1) _ (by omega) (by omega) h1
    rw [show lxE (edE (aW A) (aH A) (aH A c)) (aW A * aT A) (m + 1) X = lxE (edE (aW A) (aH A) (aH A c)) (aW A * aT A) m (laE (edE (aW A) (aH A) (aH A c)) (aW A * aT A) (aW A * aT A) 0 X) from rfl, ← e2, ← nI_1, ← e1, nI_0, L_X5_flat]
    refine cnd_t (by decide) (cnd_f ?_ rfl)
    rw [hM.1.1, hM.1.2.1, pk_mul, cGe_nI (by omega) (by omega)]; exact df (by omega)
theorem pr_flat (σ : PS) (h : Rel σ) (p0 : Int32) : Pair (F_X4_flat p0) (F_X5_flat p0) σ := pair_of h fun A hW => by
  have hb := wf_b hW
  cases hv0 : vin p0 (aW A * aT A) with
  | false =>
    refine ⟨-1, A, hW, ansC_q fun σ hC => ?_, ansM_q fun σ hM => ?_⟩
    · unfold F_X4_flat
      exact bd (e_isCell hW hC p0) (cnd_t (ef hv0) rfl)
    · unfold F_X5_flat
      exact bd (e_noPlace hW hM p0) (cnd_f (et (by rw [hv0]; rfl)) rfl)
  | true =>
  obtain ⟨c, hc, rfl⟩ := vin_ex hv0 (by omega)
  have en : (!vin (nI c) (aW A * aT A)) = false := by rw [hv0]; rfl
  have hn : aW A ≠ 0 := fun z => by rw [z, Nat.zero_mul] at hc; omega
  have hw := wf_n hW hn
  have hfe := flat_eq (W := aW A) (T := aT A) (c := c) (H := aH A) hw.1 hb.2.2.2.1 hc
  have hS : 2 ^ c < 2 ^ (aW A * aT A) := Nat.pow_lt_pow_right (by decide) hc
  have h40 : itN (aW A) (aT A) (alN (aH A) (aH A c) (aW A * aT A)) (aW A * aT A) (2 ^ c) < 2 ^ 40 := Nat.lt_of_lt_of_le (it_lt (al_lt _ _ _) _ _ hS) (Nat.pow_le_pow_right (by decide) (by omega))
  refine ⟨nI (popN 40 (itN (aW A) (aT A) (alN (aH A) (aH A c) (aW A * aT A)) (aW A * aT A) (2 ^ c))), A, hW, ansC_q fun σ hC => ?_, ansM_q fun σ hM => ?_⟩
  · unfold F_X4_flat
    exact bd (e_isCell hW hC _) (cnd_f (et hv0) (bd (e_flatWith hW hn hC hc) (bd (jlbits h40 σ) rfl)))
  · have e := flx_run hW hn hM hc (aW A * aT A) fuelN 0 (2 ^ c) (Nat.zero_add _) (by unfold fuelN; omega) hS
    rw [hfe, nI_0] at e
    unfold F_X5_flat
    refine bd (e_noPlace hW hM _) (cnd_t (ef en) ?_)
    rw [show (1 : Int64) = lN 1 from rfl, lshl_n _ (by omega), Nat.one_mul]
    exact e
