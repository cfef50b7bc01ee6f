/-! long words as sets; the count of bits on both sides (wb_, pf_, fb_, nx_: pasted) -/
theorem wb_tb (n : Nat) : (lN n).toBitVec = BitVec.ofNat 64 n := rfl
theorem wb_inj {a b : Int64} (h : a.toBitVec = b.toBitVec) : a = b := Int64.toBitVec_inj.mp h
theorem wb_tn {n : Nat} (h : n < 2 ^ 64) : (lN n).toBitVec.toNat = n := by rw [wb_tb, BitVec.toNat_ofNat, Nat.mod_eq_of_lt h]
theorem wb_c : ∀ k, k < 64 → ((nI k).toInt64 &&& 63) = lN k := by decide +kernel
theorem wb_cu : ∀ k, k < 64 → ((nI k).toInt64.toUInt64 &&& Int64.toUInt64 63) = UInt64.ofNat k := by decide +kernel
theorem wb_sm : ∀ k, k < 64 → (BitVec.ofNat 64 k).smod 64 = BitVec.ofNat 64 k := by decide +kernel
theorem wb_shr {n k : Nat} (hn : n < 2 ^ 64) (hk : k < 64) : ((lN n).toUInt64 >>> ((nI k).toInt64.toUInt64 &&& Int64.toUInt64 63)).toInt64 = lN (n / 2 ^ k) := by
  rw [wb_cu k hk]
  apply wb_inj
  apply BitVec.eq_of_toNat_eq
  show ((lN n).toUInt64 >>> UInt64.ofNat k).toNat = (BitVec.ofNat 64 _).toNat
  have h1 : (UInt64.ofNat k).toNat = k := by
    show (BitVec.ofNat 64 k).toNat = k
    rw [BitVec.toNat_ofNat, Nat.mod_eq_of_lt (by omega)]
  have h2 : (lN n).toUInt64.toNat = n := wb_tn hn
  rw [UInt64.toNat_shiftRight, h1, h2, Nat.mod_eq_of_lt hk, Nat.shiftRight_eq_div_pow, BitVec.toNat_ofNat, Nat.mod_eq_of_lt (Nat.lt_of_le_of_lt (Nat.div_le_self _ _) hn)]
theorem wb_shl (n : Nat) {k : Nat} (hk : k < 64) : lN n <<< ((nI k).toInt64 &&& 63) = lN (n * 2 ^ k) := by
  rw [wb_c k hk]
  apply wb_inj
  rw [Int64.toBitVec_shiftLeft, wb_tb, wb_tb, wb_tb, wb_sm k hk]
  apply BitVec.eq_of_toNat_eq
  rw [BitVec.shiftLeft_eq', BitVec.toNat_shiftLeft, BitVec.toNat_ofNat, BitVec.toNat_ofNat, BitVec.toNat_ofNat, Nat.mod_eq_of_lt (show k < 2 ^ 64 by omega), Nat.shiftLeft_eq, Nat.mul_mod, Nat.mod_mod, ← Nat.mul_mod]
theorem pf_lI {a : Nat} (h : a < 2 ^ 63) : (lN a).toInt = (a : Int) := lg_ofNat_toInt h
theorem pf_shr {a d : Nat} {D : Int64} (hD : (D.toBitVec.smod 64).toNat = d) (h : a < 2 ^ 62) : lN a >>> D = lN (a / 2 ^ d) := by
  have hd : a / 2 ^ d ≤ a := Nat.div_le_self _ _
  apply Int64.toInt_inj.mp
  have e : (lN a >>> D).toInt = (lN a).toInt >>> d := by
    rw [← hD]
    exact BitVec.toInt_sshiftRight ..
  rw [e, Int.shiftRight_eq_div_pow, pf_lI (by omega), pf_lI (by omega)]
  rfl
theorem nx_and (a b : Nat) : nI a &&& nI b = nI (a &&& b) := by
  apply Int32.toBitVec_inj.1
  show BitVec.ofNat 32 a &&& BitVec.ofNat 32 b = BitVec.ofNat 32 (a &&& b)
  apply BitVec.eq_of_getLsbD_eq
  intro i hi
  simp [hi]
theorem nx_xor (a b : Nat) : nI a ^^^ nI b = nI (a ^^^ b) := by
  apply Int32.toBitVec_inj.1
  show BitVec.ofNat 32 a ^^^ BitVec.ofNat 32 b = BitVec.ofNat 32 (a ^^^ b)
  apply BitVec.eq_of_getLsbD_eq
  intro i hi
  simp [hi]
theorem fb_andL (a b : Nat) : lN a &&& lN b = lN (a &&& b) := by
  apply Int64.toBitVec_inj.1
  show BitVec.ofNat 64 a &&& BitVec.ofNat 64 b = BitVec.ofNat 64 (a &&& b)
  apply BitVec.eq_of_getLsbD_eq
  intro i hi
  simp [hi]
theorem fb_orL (a b : Nat) : lN a ||| lN b = lN (a ||| b) := by
  apply Int64.toBitVec_inj.1
  show BitVec.ofNat 64 a ||| BitVec.ofNat 64 b = BitVec.ofNat 64 (a ||| b)
  apply BitVec.eq_of_getLsbD_eq
  intro i hi
  simp [hi]
theorem fb_xorL (a b : Nat) : lN a ^^^ lN b = lN (a ^^^ b) := by
  apply Int64.toBitVec_inj.1
  show BitVec.ofNat 64 a ^^^ BitVec.ofNat 64 b = BitVec.ofNat 64 (a ^^^ b)
  apply BitVec.eq_of_getLsbD_eq
  intro i hi
  simp [hi]
theorem fb_lN_inj {a b : Nat} (ha : a < 2 ^ 63) (hb : b < 2 ^ 63) : lN a = lN b ↔ a = b := by
  constructor
  · intro h
    have h1 : (BitVec.ofNat 64 a).toNat = (BitVec.ofNat 64 b).toNat := congrArg (fun x : Int64 => x.toBitVec.toNat) h
    rw [BitVec.toNat_ofNat, BitVec.toNat_ofNat, Nat.mod_eq_of_lt (by omega), Nat.mod_eq_of_lt (by omega)] at h1
    exact h1
  · rintro rfl; rfl
def fb_ct (p : Nat → Bool) : Nat → Nat
  | 0 => 0
  | n + 1 => fb_ct p n + (if p n then 1 else 0)
theorem fb_ct_succ (p : Nat → Bool) (n : Nat) : fb_ct p (n + 1) = fb_ct p n + (if p n then 1 else 0) := rfl
theorem fb_ct_le (p : Nat → Bool) : ∀ n, fb_ct p n ≤ n
  | 0 => Nat.le_refl _
  | n + 1 => by
    have h := fb_ct_le p n
    rw [fb_ct_succ]
    split <;> omega
theorem fb_ct_cong {p q : Nat → Bool} : ∀ {n : Nat}, (∀ k, k < n → p k = q k) → fb_ct p n = fb_ct q n
  | 0, _ => rfl
  | n + 1, h => by
    rw [fb_ct_succ, fb_ct_succ, fb_ct_cong (fun k hk => h k (by omega)), h n (by omega)]
theorem fb_ct_sub {p q : Nat → Bool} : ∀ {n : Nat}, (∀ k, k < n → p k = true → q k = true) → fb_ct p n ≤ fb_ct q n
  | 0, _ => Nat.le_refl _
  | n + 1, h => by
    have h1 := fb_ct_sub (n := n) (p := p) (q := q) (fun k hk => h k (by omega))
    have h2 := h n (by omega)
    rw [fb_ct_succ, fb_ct_succ]
    cases hp : p n <;> cases hq : q n <;> simp_all <;> omega
theorem fb_ct_or {p q : Nat → Bool} : ∀ {n : Nat}, (∀ k, k < n → ¬ (p k = true ∧ q k = true)) → fb_ct (fun k => p k || q k) n = fb_ct p n + fb_ct q n
  | 0, _ => rfl
  | n + 1, h => by
    have h1 := fb_ct_or (n := n) (p := p) (q := q) (fun k hk => h k (by omega))
    have h2 := h n (by omega)
    rw [fb_ct_succ, fb_ct_succ, fb_ct_succ, h1]
    cases hp : p n <;> cases hq : q n <;> simp_all <;> omega
theorem fb_ct_split (p : Nat → Bool) (m : Nat) : ∀ n, fb_ct p (m + n) = fb_ct p m + fb_ct (fun k => p (m + k)) n
  | 0 => rfl
  | n + 1 => by
    have h := fb_ct_split p m n
    show fb_ct p (m + n + 1) = _
    rw [fb_ct_succ, fb_ct_succ, h, Nat.add_assoc]
/-- one byte behind another -/
def rep (c : Nat) : Nat → Nat
  | 0 => 0
  | k + 1 => 256 * rep c k + c
def f0 (k x : Nat) : Nat := x - ((x / 2) &&& rep 85 k)
def f1 (k y : Nat) : Nat := (y &&& rep 51 k) + ((y / 4) &&& rep 51 k)
def f2 (k z : Nat) : Nat := (z + z / 16) &&& rep 15 k
theorem and_bytes {u v m c : Nat} (hv : v < 256) (hc : c < 256) : (256 * u + v) &&& (256 * m + c) = 256 * (u &&& m) + (v &&& c) := by
  have h8 : (256 : Nat) = 2 ^ 8 := by decide
  have hvc : v &&& c < 2 ^ 8 := Nat.lt_of_le_of_lt Nat.and_le_left (by omega)
  rw [h8] at hv hc ⊢
  apply Nat.eq_of_testBit_eq
  intro i
  rw [Nat.testBit_and, Nat.testBit_two_pow_mul_add _ hv, Nat.testBit_two_pow_mul_add _ hc, Nat.testBit_two_pow_mul_add _ hvc]
  by_cases h : i < 8
  · rw [if_pos h, if_pos h, if_pos h, Nat.testBit_and]
  · rw [if_neg h, if_neg h, if_neg h, Nat.testBit_and]
theorem by_0 : ∀ b, b < 256 → ∀ e, e < 2 → (128 * e + b / 2) &&& 85 = b / 2 &&& 85 := by decide +kernel
theorem by_1 : ∀ b, b < 256 → ∀ e, e < 4 → (64 * e + b / 4) &&& 51 = b / 4 &&& 51 := by decide +kernel
theorem by_2 : ∀ b, b < 69 → ∀ e, e < 5 → (b + 16 * e + b / 16) &&& 15 = (b + b / 16) &&& 15 := by decide +kernel
theorem by_3 : ∀ b, b < 256 → f0 1 b < 256 ∧ f1 1 (f0 1 b) < 69 ∧ f1 1 (f0 1 b) % 16 ≤ 4 ∧ f2 1 (f1 1 (f0 1 b)) = popN 8 b := by decide +kernel
theorem rep_1 (c : Nat) : rep c 1 = c := by show 256 * 0 + c = c; omega
theorem f0_s (k h b : Nat) (hb : b < 256) : f0 (k + 1) (256 * h + b) = 256 * f0 k h + f0 1 b := by
  unfold f0
  have e : (256 * h + b) / 2 = 256 * (h / 2) + (128 * (h % 2) + b / 2) := by omega
  rw [e, show rep 85 (k + 1) = 256 * rep 85 k + 85 from rfl, and_bytes (by omega) (by decide), by_0 b hb _ (by omega), rep_1]
  have h1 : h / 2 &&& rep 85 k ≤ h / 2 := Nat.and_le_left
  have h2 : b / 2 &&& 85 ≤ b / 2 := Nat.and_le_left
  omega
theorem f1_s (k h b : Nat) (hb : b < 256) : f1 (k + 1) (256 * h + b) = 256 * f1 k h + f1 1 b := by
  unfold f1
  have e : (256 * h + b) / 4 = 256 * (h / 4) + (64 * (h % 4) + b / 4) := by omega
  rw [e, show rep 51 (k + 1) = 256 * rep 51 k + 51 from rfl, and_bytes (by omega) (by decide), and_bytes (by omega) (by decide), by_1 b hb _ (by omega), rep_1]
  omega
theorem f2_s (k h b : Nat) (hb : b < 69) (hh : h % 16 ≤ 4) : f2 (k + 1) (256 * h + b) = 256 * f2 k h + f2 1 b := by
  unfold f2
  have e : 256 * h + b + (256 * h + b) / 16 = 256 * (h + h / 16) + (b + 16 * (h % 16) + b / 16) := by omega
  rw [e, show rep 15 (k + 1) = 256 * rep 15 k + 15 from rfl, and_bytes (by omega) (by decide), by_2 b hb _ (by omega), rep_1]
theorem f1_low : ∀ (k x : Nat), x < 256 ^ k → f1 k (f0 k x) % 16 ≤ 4 := by
  intro k x hx
  cases k with
  | zero =>
    obtain rfl : x = 0 := by simpa using hx
    decide
  | succ k =>
    obtain ⟨h, b, hb, rfl⟩ : ∃ h b, b < 256 ∧ x = 256 * h + b := ⟨x / 256, x % 256, Nat.mod_lt _ (by decide), by omega⟩
    obtain ⟨b1, b2, b3, b4⟩ := by_3 b hb
    rw [f0_s k h b hb, f1_s k _ _ b1]
    omega
def f3 (k x : Nat) : Nat := f2 k (f1 k (f0 k x))
theorem f3_s (k h b : Nat) (hb : b < 256) (hh : h < 256 ^ k) : f3 (k + 1) (256 * h + b) = 256 * f3 k h + popN 8 b := by
  obtain ⟨b1, b2, b3, b4⟩ := by_3 b hb
  unfold f3
  rw [f0_s k h b hb, f1_s k _ _ b1, f2_s k _ _ b2 (f1_low k h hh), b4]
theorem popN_add : ∀ (a b n : Nat), popN (a + b) n = popN a n + popN b (n / 2 ^ a) := by
  intro a
  induction a with
  | zero => intro b n; rw [Nat.zero_add, Nat.pow_zero, Nat.div_one]; show _ = 0 + _; omega
  | succ a ih =>
    intro b n
    rw [show a + 1 + b = (a + b) + 1 from by omega]
    show n % 2 + popN (a + b) (n / 2) = n % 2 + popN a (n / 2) + popN b (n / 2 ^ (a + 1))
    rw [ih, Nat.pow_succ, Nat.mul_comm (2 ^ a) 2, ← Nat.div_div_eq_div_mul]
    omega
theorem popN_lo : ∀ (a h b : Nat), popN a (2 ^ a * h + b) = popN a b := by
  intro a
  induction a with
  | zero => intro h b; rfl
  | succ a ih =>
    intro h b
    have e : 2 ^ (a + 1) * h + b = 2 * (2 ^ a * h) + b := by rw [Nat.pow_succ, Nat.mul_comm (2 ^ a) 2, Nat.mul_assoc]
    show (2 ^ (a + 1) * h + b) % 2 + popN a ((2 ^ (a + 1) * h + b) / 2) = b % 2 + popN a (b / 2)
    rw [e, show (2 * (2 ^ a * h) + b) / 2 = 2 ^ a * h + b / 2 from by omega, ih]
    omega
theorem popN_le : ∀ (a n : Nat), popN a n ≤ a := by
  intro a
  induction a with
  | zero => intro n; exact Nat.le_refl 0
  | succ a ih =>
    intro n
    have := ih (n / 2)
    show n % 2 + popN a (n / 2) ≤ a + 1
    omega
theorem popN_40 {n : Nat} (hn : n < 2 ^ 40) : popN 40 n = popN 8 (n % 256) + popN 8 (n / 256 % 256) + popN 8 (n / 65536 % 256) + popN 8 (n / 16777216 % 256) + popN 8 (n / 4294967296) := by
  have lo : ∀ m, popN 8 m = popN 8 (m % 256) := fun m => by
    have e : m = 2 ^ 8 * (m / 256) + m % 256 := by omega
    rw [show popN 8 m = popN 8 (2 ^ 8 * (m / 256) + m % 256) from congrArg _ e, popN_lo]
  rw [popN_add 8 32, popN_add 8 24, popN_add 8 16, popN_add 8 8, lo n, lo (n / 2 ^ 8), lo (n / 2 ^ 8 / 2 ^ 8), lo (n / 2 ^ 8 / 2 ^ 8 / 2 ^ 8)]
  rw [show n / 2 ^ 8 / 2 ^ 8 = n / 65536 from by omega, show n / 65536 / 2 ^ 8 = n / 16777216 from by omega, show n / 16777216 / 2 ^ 8 = n / 4294967296 from by omega, show n / 2 ^ 8 = n / 256 from by omega]
  omega
theorem f3_40 {n : Nat} (hn : n < 2 ^ 40) : f3 8 n = popN 8 (n % 256) + 256 * popN 8 (n / 256 % 256) + 65536 * popN 8 (n / 65536 % 256) + 16777216 * popN 8 (n / 16777216 % 256) + 4294967296 * popN 8 (n / 4294967296) := by
  have sp : ∀ k m, m < 256 ^ (k + 1) → f3 (k + 1) m = 256 * f3 k (m / 256) + popN 8 (m % 256) := fun k m hm => by
    have e : m = 256 * (m / 256) + m % 256 := by omega
    rw [show f3 (k + 1) m = f3 (k + 1) (256 * (m / 256) + m % 256) from congrArg _ e, f3_s k _ _ (Nat.mod_lt _ (by decide)) (by rw [Nat.pow_succ] at hm; omega)]
  rw [sp 7 n (by omega), sp 6 _ (by omega), sp 5 _ (by omega), sp 4 _ (by omega), sp 3 _ (by omega)]
  rw [show n / 256 / 256 = n / 65536 from by omega, show n / 65536 / 256 = n / 16777216 from by omega, show n / 16777216 / 256 = n / 4294967296 from by omega, show n / 4294967296 / 256 = 0 from by omega, show n / 4294967296 % 256 = n / 4294967296 from by omega, show f3 3 0 = 0 from by decide]
  omega
theorem rep_85 : rep 85 8 = 6148914691236517205 := by decide
theorem rep_51 : rep 51 8 = 3689348814741910323 := by decide
theorem rep_15 : rep 15 8 = 1085102592571150095 := by decide
def jlc (p : Int64) : Int32 :=
  let t0 := p - ((lushr p 1) &&& 6148914691236517205)
  let t1 := (t0 &&& 3689348814741910323) + ((lushr t0 2) &&& 3689348814741910323)
  let t2 := ((t1 + (lushr t1 4)) &&& 1085102592571150095) + (lushr ((t1 + (lushr t1 4)) &&& 1085102592571150095) 8)
  (Int64.toInt32 ((t2 + (lushr t2 16)) + (lushr (t2 + (lushr t2 16)) 32))) &&& 127
theorem jlbits_e (p : Int64) (σ : PS) : F_J13_bitCount_95d88 p σ = some (jlc p, σ) := rfl
theorem lushr_n {n k : Nat} (hn : n < 2 ^ 64) (hk : k < 64) : lushr (lN n) (nI k) = lN (n / 2 ^ k) := wb_shr hn hk
theorem jl_fin {T g0 g1 g2 g3 g4 : Nat} (hT : T = g0 + 256 * g1 + 65536 * g2 + 16777216 * g3 + 4294967296 * g4) (q0 : g0 ≤ 8) (q1 : g1 ≤ 8) (q2 : g2 ≤ 8) (q3 : g3 ≤ 8) (q4 : g4 ≤ 8) : (Int64.toInt32 ((lN T + (lushr (lN T) 8) + (lushr (lN T + (lushr (lN T) 8)) 16)) + (lushr (lN T + (lushr (lN T) 8) + (lushr (lN T + (lushr (lN T) 8)) 16)) 32))) &&& 127 = nI (g0 + g1 + g2 + g3 + g4) := by
  have bT : T < 2 ^ 40 := by omega
  have e3 : lN T + lushr (lN T) 8 = lN ((g0 + g1) + 256 * (g1 + g2) + 65536 * (g2 + g3) + 16777216 * (g3 + g4) + 4294967296 * g4) := by
    rw [show (8 : Int32) = nI 8 from rfl, lushr_n (by omega) (by decide), lN_add]
    congr 1
    omega
  rw [e3]
  have e4 : lN ((g0 + g1) + 256 * (g1 + g2) + 65536 * (g2 + g3) + 16777216 * (g3 + g4) + 4294967296 * g4) + lushr (lN ((g0 + g1) + 256 * (g1 + g2) + 65536 * (g2 + g3) + 16777216 * (g3 + g4) + 4294967296 * g4)) 16 = lN ((g0 + g1 + g2 + g3) + 256 * (g1 + g2 + g3 + g4) + 65536 * (g2 + g3 + g4) + 16777216 * (g3 + g4) + 4294967296 * g4) := by
    rw [show (16 : Int32) = nI 16 from rfl, lushr_n (by omega) (by decide), lN_add]
    congr 1
    omega
  rw [e4]
  have e5 : lN ((g0 + g1 + g2 + g3) + 256 * (g1 + g2 + g3 + g4) + 65536 * (g2 + g3 + g4) + 16777216 * (g3 + g4) + 4294967296 * g4) + lushr (lN ((g0 + g1 + g2 + g3) + 256 * (g1 + g2 + g3 + g4) + 65536 * (g2 + g3 + g4) + 16777216 * (g3 + g4) + 4294967296 * g4)) 32 = lN ((g0 + g1 + g2 + g3 + g4) + 256 * (g1 + g2 + g3 + g4) + 65536 * (g2 + g3 + g4) + 16777216 * (g3 + g4) + 4294967296 * g4) := by
    rw [show (32 : Int32) = nI 32 from rfl, lushr_n (by omega) (by decide), lN_add]
    congr 1
    omega
  rw [e5, lN_i, show (127 : Int32) = nI (2 ^ 7 - 1) from rfl, nx_and, Nat.and_two_pow_sub_one_eq_mod]
  congr 1
  omega
theorem jlc_n {n : Nat} (hn : n < 2 ^ 40) : jlc (lN n) = nI (popN 40 n) := by
  have a1 : n / 2 &&& rep 85 8 ≤ n := Nat.le_trans Nat.and_le_left (Nat.div_le_self _ _)
  have b0 : f0 8 n ≤ n := Nat.sub_le _ _
  have a2 : f0 8 n &&& rep 51 8 ≤ f0 8 n := Nat.and_le_left
  have a3 : f0 8 n / 4 &&& rep 51 8 ≤ f0 8 n / 4 := Nat.and_le_left
  have b1 : f1 8 (f0 8 n) ≤ 2 * n := by unfold f1; omega
  have b2 : f2 8 (f1 8 (f0 8 n)) ≤ f1 8 (f0 8 n) + f1 8 (f0 8 n) / 16 := Nat.and_le_left
  have e0 : lN n - ((lushr (lN n) 1) &&& 6148914691236517205) = lN (f0 8 n) := by
    rw [show (1 : Int32) = nI 1 from rfl, lushr_n (by omega) (by decide), show (6148914691236517205 : Int64) = lN (rep 85 8) from by rw [rep_85]; rfl, fb_andL, lN_sub (by exact a1)]
    rfl
  have e1 : (lN (f0 8 n) &&& 3689348814741910323) + ((lushr (lN (f0 8 n)) 2) &&& 3689348814741910323) = lN (f1 8 (f0 8 n)) := by
    rw [show (2 : Int32) = nI 2 from rfl, lushr_n (by omega) (by decide), show (3689348814741910323 : Int64) = lN (rep 51 8) from by rw [rep_51]; rfl, fb_andL, fb_andL, lN_add]
    rfl
  have e2 : (lN (f1 8 (f0 8 n)) + (lushr (lN (f1 8 (f0 8 n))) 4)) &&& 1085102592571150095 = lN (f3 8 n) := by
    rw [show (4 : Int32) = nI 4 from rfl, lushr_n (by omega) (by decide), show (1085102592571150095 : Int64) = lN (rep 15 8) from by rw [rep_15]; rfl, lN_add, fb_andL]
    rfl
  have b3 : f3 8 n ≤ f1 8 (f0 8 n) + f1 8 (f0 8 n) / 16 := b2
  have hT := f3_40 hn
  have q0 := popN_le 8 (n % 256)
  have q1 := popN_le 8 (n / 256 % 256)
  have q2 := popN_le 8 (n / 65536 % 256)
  have q3 := popN_le 8 (n / 16777216 % 256)
  have q4 := popN_le 8 (n / 4294967296)
  have hp := popN_40 hn
  rw [hp]
  clear hp
  have hu : jlc (lN n) = (Int64.toInt32 ((lN (f3 8 n) + (lushr (lN (f3 8 n)) 8) + (lushr (lN (f3 8 n) + (lushr (lN (f3 8 n)) 8)) 16)) + (lushr (lN (f3 8 n) + (lushr (lN (f3 8 n)) 8) + (lushr (lN (f3 8 n) + (lushr (lN (f3 8 n)) 8)) 16)) 32))) &&& 127 := by
    rw [← e2, ← e1, ← e0]; rfl
  rw [hu]
  generalize f3 8 n = T at hT
  generalize popN 8 (n % 256) = g0 at hT q0 ⊢
  generalize popN 8 (n / 256 % 256) = g1 at hT q1 ⊢
  generalize popN 8 (n / 65536 % 256) = g2 at hT q2 ⊢
  generalize popN 8 (n / 16777216 % 256) = g3 at hT q3 ⊢
  generalize popN 8 (n / 4294967296) = g4 at hT q4 ⊢
  exact jl_fin hT q0 q1 q2 q3 q4
theorem jlbits {n : Nat} (hn : n < 2 ^ 40) (σ : PS) : F_J13_bitCount_95d88 (lN n) σ = some (nI (popN 40 n), σ) := by rw [jlbits_e, jlc_n hn]
theorem lg_le0 (a b : Int64) : cLe (lg_cmp a b) 0 = !decide (b < a) := by
  rw [← lg_gt0]
  unfold cLe cGt
  by_cases h : (0 : Int32) < lg_cmp a b
  · rw [decide_eq_true h, decide_eq_false (by rw [Int32.le_iff_toInt_le]; rw [Int32.lt_iff_toInt_lt] at h; omega)]; rfl
  · rw [decide_eq_false h, decide_eq_true (by rw [Int32.le_iff_toInt_le]; rw [Int32.lt_iff_toInt_lt] at h; omega)]; rfl
theorem lg_ne0 (a b : Int64) : cNe (lg_cmp a b) 0 = !decide (a = b) := by
  unfold lg_cmp cNe
  by_cases h1 : b < a
  · have : ¬ a = b := fun e => by subst e; exact absurd h1 (Int64.lt_irrefl)
    simp [h1, this]
  · by_cases h2 : a = b
    · subst h2; simp [Int64.lt_irrefl]
    · simp [h1, h2]
theorem lN_lt0 {n : Nat} (h : n < 2 ^ 62) : decide ((0 : Int64) < lN n) = !decide (n = 0) := by
  by_cases e : n = 0
  · subst e; decide
  · rw [decide_eq_false e, decide_eq_true]; · rfl
    rw [Int64.lt_iff_toInt_lt, pf_lI (by omega), show (0 : Int64).toInt = 0 from by decide]
    omega
theorem lshr_1 {n : Nat} (h : n < 2 ^ 62) : lshr (lN n) 1 = lN (n / 2) := by
  unfold lshr
  exact pf_shr (d := 1) (by decide) h
theorem lodd {n : Nat} (h : n < 2 ^ 62) : cNe (lg_cmp (lN n &&& 1) 1) 0 = decide (n % 2 = 0) := by
  rw [lg_ne0, show (1 : Int64) = lN (2 ^ 1 - 1) from rfl, fb_andL, Nat.and_two_pow_sub_one_eq_mod]
  by_cases e : n % 2 = 0
  · rw [show n % 2 ^ 1 = 0 from by omega]; decide
  · rw [show n % 2 ^ 1 = 1 from by omega]; decide
theorem mbitsL (σ : PS) : ∀ (m f n x : Nat), n < 2 ^ m → m ≤ 60 → m < f → L_X5_bits f (nI x) (lN n) σ = some (nI (x + popN m n), σ) := by
  intro m
  induction m with
  | zero =>
    intro f n x h1 h2 h3
    obtain ⟨f, rfl⟩ : ∃ g, f = g + 1 := ⟨f - 1, by omega⟩
    obtain rfl : n = 0 := by simpa using h1
    show (bif cLe (lg_cmp (lN 0) 0) 0 then _ else _) = _
    rw [lg_le0, lN_lt0 (by decide)]; rfl
  | succ m ih =>
    intro f n x h1 h2 h3
    obtain ⟨f, rfl⟩ : ∃ g, f = g + 1 := ⟨f - 1, by omega⟩
    have hp : 2 ^ (m + 1) = 2 * 2 ^ m := by rw [Nat.pow_succ]; omega
    have hq : 2 ^ (m + 1) ≤ 2 ^ 60 := Nat.pow_le_pow_right (by decide) h2
    have hn : n < 2 ^ 62 := by omega
    by_cases h0 : n = 0
    · subst h0
      show (bif cLe (lg_cmp (lN 0) 0) 0 then _ else _) = _
      rw [lg_le0, lN_lt0 (by decide), popN_0]; rfl
    · show (bif cLe (lg_cmp (lN n) 0) 0 then _ else (bif cNe (lg_cmp (lN n &&& 1) 1) 0 then L_X5_bits f (nI x + 0) (lshr (lN n) 1) σ else L_X5_bits f (nI x + 1) (lshr (lN n) 1) σ)) = some (nI (x + (n % 2 + popN m (n / 2))), σ)
      rw [lg_le0, lN_lt0 hn, decide_eq_false h0, lodd hn, lshr_1 hn]
      by_cases e : n % 2 = 0
      · rw [decide_eq_true e]
        show L_X5_bits f (nI x + nI 0) _ σ = _
        rw [nI_add, ih f (n / 2) _ (by omega) (by omega) (by omega), show x + 0 + popN m (n / 2) = x + (n % 2 + popN m (n / 2)) from by omega]
      · rw [decide_eq_false e]
        show L_X5_bits f (nI x + nI 1) _ σ = _
        rw [nI_add, ih f (n / 2) _ (by omega) (by omega) (by omega), show x + 1 + popN m (n / 2) = x + (n % 2 + popN m (n / 2)) from by omega]
theorem e_bits {n : Nat} (hn : n < 2 ^ 40) (σ : PS) : F_X5_bits (lN n) σ = some (nI (popN 40 n), σ) := by
  have e := mbitsL σ 40 fuelN n 0 hn (by decide) (by unfold fuelN; omega)
  rw [nI_0, Nat.zero_add] at e
  exact e
theorem popN_ct : ∀ m n, popN m n = fb_ct (fun k => n.testBit k) m := by
  intro m
  induction m with
  | zero => intro n; rfl
  | succ m ih =>
    intro n
    show n % 2 + popN m (n / 2) = _
    rw [ih, Nat.add_comm m 1, fb_ct_split]
    have e : fb_ct (fun k => n.testBit k) 1 = n % 2 := by
      show 0 + (if n.testBit 0 = true then 1 else 0) = n % 2
      rw [Nat.testBit_zero]
      by_cases h : n % 2 = 1
      · rw [decide_eq_true h, if_pos rfl, h]
      · rw [decide_eq_false h, if_neg (by decide)]; omega
    rw [e]
    congr 1
    exact fb_ct_cong fun k _ => by rw [Nat.add_comm 1 k, Nat.testBit_succ]
/-- what is in b and not in a -/
def dif (b a : Nat) : Nat := b &&& (a ^^^ (2 ^ 64 - 1))
theorem dif_bit (b a k : Nat) (hk : k < 64) : (dif b a).testBit k = (b.testBit k && !a.testBit k) := by
  unfold dif
  rw [Nat.testBit_and, Nat.testBit_xor, Nat.testBit_two_pow_sub_one, decide_eq_true hk]
  cases a.testBit k <;> rfl
theorem dif_L (b a : Nat) : lN b &&& (lN a ^^^ (-1)) = lN (dif b a) := by
  rw [show (-1 : Int64) = lN (2 ^ 64 - 1) from by decide, fb_xorL, fb_andL]; rfl
theorem dif_le (b a : Nat) : dif b a ≤ b := Nat.and_le_left
theorem popN_or (m a b : Nat) (hm : m ≤ 64) : popN m (a ||| b) = popN m a + popN m (dif b a) := by
  rw [popN_ct, popN_ct, popN_ct, ← fb_ct_or]
  · refine fb_ct_cong fun k hk => ?_
    show (a ||| b).testBit k = (a.testBit k || (dif b a).testBit k)
    rw [Nat.testBit_or, dif_bit b a k (by omega)]
    cases a.testBit k <;> cases b.testBit k <;> rfl
  · intro k hk h
    rw [dif_bit b a k (by omega), h.1] at h
    simp at h
