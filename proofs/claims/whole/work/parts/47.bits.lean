/-! the count of bits of a mask of lookers -/
def popN : Nat → Nat → Nat
  | 0, _ => 0
  | m + 1, n => n % 2 + popN m (n / 2)
def jbc (p : Int32) : Int32 :=
  let t1 := (((p - ((ushr p (1)) &&& (1431655765))) &&& (858993459)) + ((ushr (p - ((ushr p (1)) &&& (1431655765))) (2)) &&& (858993459)))
  let t2 := (((t1 + (ushr t1 (4))) &&& (252645135)) + (ushr ((t1 + (ushr t1 (4))) &&& (252645135)) (8)))
  ((t2 + (ushr t2 (16))) &&& (63))
theorem jbc_16 : ∀ n, n < 16 → jbc (nI n) = nI (popN 4 n) := by decide +kernel
theorem jbits {n : Nat} (hn : n < 16) (σ : PS) : F_J6_bitCount_0f7a4 (nI n) σ = some (nI (popN 4 n), σ) := by
  have e : F_J6_bitCount_0f7a4 (nI n) σ = some (jbc (nI n), σ) := rfl
  rw [e, jbc_16 n hn]
theorem mb_16 : ∀ n, n < 16 → cLe (lg_cmp (lN n) 0) 0 = decide (n = 0) ∧ cNe (lg_cmp (lN n &&& 1) 1) 0 = decide (n % 2 = 0) ∧ lshr (lN n) 1 = lN (n / 2) := by decide +kernel
theorem popN_0 : ∀ m, popN m 0 = 0 := by
  intro m
  induction m with
  | zero => rfl
  | succ m ih => show 0 % 2 + popN m (0 / 2) = 0; rw [show 0 / 2 = 0 from rfl, ih]
theorem mbits_run (σ : PS) : ∀ (m f n x : Nat), n < 2 ^ m → n < 16 → m < f → L_X5_bits f (nI x) (lN n) σ = some (nI (x + popN m n), σ) := by
  intro m
  induction m with
  | zero =>
    intro f n x h1 h2 h3
    obtain ⟨f, rfl⟩ : ∃ g, f = g + 1 := ⟨f - 1, by omega⟩
    obtain rfl : n = 0 := by simpa using h1
    show (bif cLe (lg_cmp (lN 0) 0) 0 then _ else _) = _
    rw [(mb_16 0 (by omega)).1]; rfl
  | succ m ih =>
    intro f n x h1 h2 h3
    obtain ⟨f, rfl⟩ : ∃ g, f = g + 1 := ⟨f - 1, by omega⟩
    obtain ⟨q1, q2, q3⟩ := mb_16 n h2
    by_cases h0 : n = 0
    · subst h0
      show (bif cLe (lg_cmp (lN 0) 0) 0 then _ else _) = _
      rw [q1, popN_0]; rfl
    · show (bif cLe (lg_cmp (lN n) 0) 0 then _ else (bif cNe (lg_cmp (lN n &&& 1) 1) 0 then L_X5_bits f (nI x + 0) (lshr (lN n) 1) σ else L_X5_bits f (nI x + 1) (lshr (lN n) 1) σ)) = some (nI (x + (n % 2 + popN m (n / 2))), σ)
      rw [q1, decide_eq_false h0, cond_false, q2, q3]
      have hp : 2 ^ (m + 1) = 2 * 2 ^ m := by rw [Nat.pow_succ]; omega
      by_cases e : n % 2 = 0
      · rw [decide_eq_true e, cond_true, show (0 : Int32) = nI 0 from rfl, nI_add, ih f (n / 2) _ (by omega) (by omega) (by omega), show x + 0 + popN m (n / 2) = x + (n % 2 + popN m (n / 2)) from by omega]
      · rw [decide_eq_false e, cond_false, show (1 : Int32) = nI 1 from rfl, nI_add, ih f (n / 2) _ (by omega) (by omega) (by omega), show x + 1 + popN m (n / 2) = x + (n % 2 + popN m (n / 2)) from by omega]
theorem e_bits4 {n : Nat} (hn : n < 16) (σ : PS) : F_X5_bits (lN n) σ = some (nI (popN 4 n), σ) := by
  have e := mbits_run σ 4 fuelN n 0 (by omega) hn (by unfold fuelN; omega)
  rw [nI_0, Nat.zero_add] at e
  exact e
