/-! how far a column is from the next one over which a looker is (sets of columns below 6) -/
def abd (a b : Nat) : Nat := (a - b) + (b - a)
def dSr (M c : Nat) : Nat → Nat
  | 0 => 99
  | s + 1 => min (dSr M c s) (bif M.testBit s then abd s c else 99)
def dS (M c : Nat) : Nat := dSr M c 6
def tgS (M c : Nat) : Nat := bif M.testBit (c + dS M c) then c + dS M c else c - dS M c
theorem ds_1 : ∀ M, M < 64 → ∀ c, c < 6 → M ≠ 0 → abd (tgS M c) c = dS M c ∧ M.testBit (tgS M c) = true := by decide +kernel
theorem ds_2 : ∀ M, M < 64 → ∀ c, c < 5 → M ≠ 0 → dS M c ≤ dS M (c + 1) + 1 ∧ dS M (c + 1) ≤ dS M c + 1 := by decide +kernel
theorem ds_3 : ∀ M, M < 64 → ∀ c, c < 5 → M ≠ 0 → c < tgS M c → dS M (c + 1) + 1 = dS M c ∧ tgS M (c + 1) = tgS M c := by decide +kernel
theorem ds_4 : ∀ M, M < 64 → ∀ c, c < 5 → M ≠ 0 → tgS M (c + 1) < c + 1 → dS M c + 1 = dS M (c + 1) ∧ tgS M c = tgS M (c + 1) := by decide +kernel
theorem ds_5 : ∀ M, M < 64 → ∀ c, c < 5 → M ≠ 0 → tgS M c ≤ c → ¬ (dS M (c + 1) + 1 = dS M c) := by decide +kernel
theorem ds_6 : ∀ M, M < 64 → ∀ c, c < 6 → M.testBit c = (!decide (M = 0) && decide (dS M c = 0)) := by decide +kernel
theorem ds_7 : ∀ M, M < 64 → ∀ c, c < 6 → M ≠ 0 → dS M c ≤ 5 := by decide +kernel
/-- the columns over which the ship can be so that a looker who is there is over the column cc -/
def inS (W K G cc c : Nat) : Bool := Nat.ble (c + K) W && Nat.ble c cc && Nat.blt (cc - c) K && !G.testBit (cc - c)
def six (b0 b1 b2 b3 b4 b5 : Bool) : Nat := (bif b0 then 1 else 0) + (bif b1 then 2 else 0) + (bif b2 then 4 else 0) + (bif b3 then 8 else 0) + (bif b4 then 16 else 0) + (bif b5 then 32 else 0)
theorem six_b : ∀ b0 b1 b2 b3 b4 b5 : Bool, six b0 b1 b2 b3 b4 b5 < 64 ∧ (six b0 b1 b2 b3 b4 b5).testBit 0 = b0 ∧ (six b0 b1 b2 b3 b4 b5).testBit 1 = b1 ∧ (six b0 b1 b2 b3 b4 b5).testBit 2 = b2 ∧ (six b0 b1 b2 b3 b4 b5).testBit 3 = b3 ∧ (six b0 b1 b2 b3 b4 b5).testBit 4 = b4 ∧ (six b0 b1 b2 b3 b4 b5).testBit 5 = b5 := by decide +kernel
def mM (W K G cc : Nat) : Nat := six (inS W K G cc 0) (inS W K G cc 1) (inS W K G cc 2) (inS W K G cc 3) (inS W K G cc 4) (inS W K G cc 5)
theorem mM_lt (W K G cc : Nat) : mM W K G cc < 64 := (six_b _ _ _ _ _ _).1
theorem mM_b (W K G cc : Nat) {c : Nat} (hc : c < 6) : (mM W K G cc).testBit c = inS W K G cc c := by
  obtain ⟨-, h0, h1, h2, h3, h4, h5⟩ := six_b (inS W K G cc 0) (inS W K G cc 1) (inS W K G cc 2) (inS W K G cc 3) (inS W K G cc 4) (inS W K G cc 5)
  match c, hc with
  | 0, _ => exact h0
  | 1, _ => exact h1
  | 2, _ => exact h2
  | 3, _ => exact h3
  | 4, _ => exact h4
  | 5, _ => exact h5
def disb (sc b : Nat) : Nat := bif Nat.beq b 0 then 99 else abd (b - 1) sc
def faN (W K G cc sc : Nat) : Nat → Nat → Nat → Nat
  | 0, _, b => b
  | m + 1, k, b => faN W K G cc sc m (k + 1) (bif G.testBit k || Nat.blt cc k || Nat.blt W (cc - k + K) then b else bif Nat.ble (disb sc b) (abd (cc - k) sc) then b else cc - k + 1)
theorem fa_all : ∀ W, W < 7 → ∀ K, K < 5 → ∀ G, G < 16 → ∀ cc, cc < 6 → ∀ sc, sc < 6 → (!(Nat.ble 1 K && Nat.blt G (2 ^ K) && Nat.blt cc W && Nat.ble (sc + K) W) || Nat.beq (faN W K G cc sc K 0 0) (bif Nat.beq (mM W K G cc) 0 then 0 else tgS (mM W K G cc) sc + 1)) = true := by decide +kernel
def acr (sc b : Nat) : Int32 := if b = 0 then 99 else nI (b - 1) - nI sc
theorem ia_cmp : ∀ s, s < 6 → ∀ sc, sc < 6 → ∀ b, b < 7 → cGe (iabs (nI s - nI sc)) (iabs (acr sc b)) = Nat.ble (disb sc b) (abd s sc) := by decide +kernel
theorem ia_pm : ∀ s, s < 6 → ∀ sc, sc < 6 → imax (nI s - nI sc) 0 = nI (s - sc) ∧ imax (- (nI s - nI sc)) 0 = nI (sc - s) ∧ cNe (nI s - nI sc) 99 = true := by decide +kernel
theorem lt_sub : ∀ cc, cc < 6 → ∀ k, k < 4 → cLt (nI cc - nI k) 0 = Nat.blt cc k := by decide +kernel
theorem blt_d (a b : Nat) : Nat.blt a b = decide (a < b) := by
  rw [Bool.eq_iff_iff, Nat.blt_eq, decide_eq_true_eq]
theorem ble_d (a b : Nat) : Nat.ble a b = decide (a ≤ b) := by
  rw [Bool.eq_iff_iff, Nat.ble_eq, decide_eq_true_eq]
theorem fa_is {W K G cc sc : Nat} (hW : W ≤ 6) (hK : 1 ≤ K) (hK4 : K ≤ 4) (hG : G < 2 ^ K) (hG16 : G < 16) (hcc : cc < W) (hsc : sc + K ≤ W) : faN W K G cc sc K 0 0 = if mM W K G cc = 0 then 0 else tgS (mM W K G cc) sc + 1 := by
  have h := fa_all W (by omega) K (by omega) G hG16 cc (by omega) sc (by omega)
  rw [ble_d, blt_d, blt_d, ble_d, dt hK, dt hG, dt hcc, dt hsc] at h
  have h := Nat.eq_of_beq_eq_true (show Nat.beq _ _ = true from h)
  rw [h]
  by_cases e : mM W K G cc = 0
  · rw [e, if_pos rfl]; rfl
  · rw [if_neg e]
    cases hb : Nat.beq (mM W K G cc) 0 with
    | true => exact absurd (Nat.eq_of_beq_eq_true hb) e
    | false => rfl
