/-! WHAT IS SO BETWEEN CALLS: one mathematical state, which the class' cells and the model's cells both hold. -/
abbrev AS : Type := (Nat → Nat) × (Nat → Nat → Nat) × (Nat → Int32) × (Nat → Nat → Int32)
section ASA
variable (A : AS)
abbrev aW : Nat := A.1 0
abbrev aT : Nat := A.1 1
abbrev aK : Nat := A.1 2
abbrev aC : Nat := A.1 3
abbrev aR : Nat := A.1 4
/-- the set of LOOKERS that are gone; the set of cells seen -/
abbrev aG : Nat := A.1 5
abbrev aS : Nat := A.1 6
abbrev aN : Nat := A.1 7
abbrev aF : Nat := A.1 8
abbrev aH (i : Nat) : Nat := A.2.1 0 i
abbrev aKd (k : Nat) : Nat := A.2.1 1 k
abbrev aSh (k : Nat) : Nat := A.2.1 2 k
abbrev aRo (i : Nat) : Nat := A.2.1 3 i
abbrev aRa (i : Nat) : Nat := A.2.1 4 i
abbrev aRw (i : Nat) : Nat := A.2.1 5 i
/-- of a SHEET: 0 it has nothing, else 1 more than its length; its LANE -/
abbrev aZ (k : Nat) : Nat := A.2.1 6 k
abbrev aL (k : Nat) : Nat := A.2.1 7 k
abbrev aTr : Int32 := A.2.2.1 0
abbrev aSt : Int32 := A.2.2.1 1
abbrev aX (k i : Nat) : Int32 := A.2.2.2 k i
/-- the set of LOOKERS that are on the hull -/
def aO : Nat := (2 ^ aK A - 1) ^^^ aG A
/-- PLACE -/
def aP : Nat := aW A * aR A + aC A
end ASA
def wfSea (A : AS) : Prop := (aW A = 0 ∧ aT A = 0 ∧ aK A = 0 ∧ aC A = 0 ∧ aR A = 0 ∧ aG A = 0 ∧ aS A = 0 ∧ aN A = 0) ∨ (2 ≤ aW A ∧ aW A ≤ 6 ∧ 2 ≤ aT A ∧ aT A ≤ 6 ∧ 1 ≤ aK A ∧ aK A ≤ 4 ∧ aC A + aK A ≤ aW A ∧ aR A < aT A ∧ aG A < 2 ^ aK A ∧ aS A < 2 ^ (aW A * aT A) ∧ aN A ≤ 8)
/-- what is cut to a LANE; all that a SHEET has is so cut -/
def cutN (l : Nat) (x : Int32) : Int32 := if l = 0 then i2b x else if l = 1 then i2s x else x
def wfCut (A : AS) : Prop := ∀ k, k < 4 → ∀ i, i + 1 < aZ A k → cutN (aL A k) (aX A k i) = aX A k i
def wfRows (A : AS) : Prop := (∀ i, i < aW A * aT A → aH A i ≤ 9) ∧ (∀ k, k < aK A → aKd A k ≤ 2 ∧ aSh A k ≤ 9) ∧ (∀ i, i < aN A → aRo A i < aK A ∧ aRa A i ≤ 9 ∧ aRw A i ≤ 20) ∧ wfCut A
def wfSheets (A : AS) : Prop := aF A ≤ 4 ∧ ∀ k, k < 4 → aZ A k ≤ 61 ∧ aL A k ≤ 2
def WF (A : AS) : Prop := wfSea A ∧ wfRows A ∧ wfSheets A
/-- the class' cells -/
def rcSea (A : AS) (σ : PS) : Prop := gI σ 643 = nI (aW A) ∧ gI σ 644 = nI (aT A) ∧ gI σ 645 = nI (aK A) ∧ gI σ 646 = nI (aO A) ∧ gI σ 647 = nI (aP A) ∧ gL σ 648 = lN (aS A) ∧ gI σ 649 = aSt A
def rcRows (A : AS) (σ : PS) : Prop := (∀ i, i < aW A * aT A → gA σ 11 i = nI (aH A i)) ∧ (∀ k, k < aK A → gA σ 12 k = nI (aKd A k) ∧ gA σ 13 k = nI (aSh A k))
def rcRead (A : AS) (σ : PS) : Prop := gI σ 899 = nI (aN A) ∧ ∀ i, i < aN A → gA σ 15 i = nI (aRo A i) ∧ gA σ 16 i = nI (aRa A i) ∧ gA σ 17 i = nI (aRw A i)
def rcSheets (A : AS) (σ : PS) : Prop := gI σ 4 = aTr A ∧ gI σ 5 = nI (aF A) ∧ ∀ k, k < 4 → gI σ (64 * (2 * k + 2) + 1) = nI (aZ A k) - 1 ∧ gI σ (64 * (2 * k + 2) + 2) = nI (aL A k) ∧ ∀ i, i + 1 < aZ A k → gA σ (2 * k + 3) i = aX A k i
def RC (A : AS) (σ : PS) : Prop := rcSea A σ ∧ rcRows A σ ∧ rcRead A σ ∧ rcSheets A σ
/-- the model's cells -/
def rmSea (A : AS) (σ : PS) : Prop := gI σ 1217 = nI (aW A) ∧ gI σ 1218 = nI (aT A) ∧ gI σ 1219 = nI (aK A) ∧ gI σ 1220 = nI (aC A) ∧ gI σ 1221 = nI (aR A) ∧ gI σ 1222 = aSt A ∧ gI σ 1223 = nI (aG A) ∧ gL σ 1224 = lN (aS A)
def rmRows (A : AS) (σ : PS) : Prop := (∀ i, i < aW A * aT A → gA σ 20 i = nI (aH A i)) ∧ (∀ k, k < aK A → gA σ 21 k = nI (aKd A k) ∧ gA σ 22 k = nI (aSh A k))
def rmRead (A : AS) (σ : PS) : Prop := gI σ 1241 = nI (aN A) ∧ ∀ i, i < aN A → gA σ 27 i = nI (aRo A i) ∧ gA σ 28 i = nI (aRa A i) ∧ gA σ 29 i = nI (aRw A i)
def rmSheets (A : AS) (σ : PS) : Prop := gI σ 1249 = aTr A ∧ gI σ 1216 = nI (aF A) ∧ ∀ k, k < 4 → gA σ 30 k = nI (aZ A k) - 1 ∧ gA σ 31 k = nI (aL A k) ∧ ∀ i, i + 1 < aZ A k → gA σ 32 (60 * k + i) = aX A k i
def RM (A : AS) (σ : PS) : Prop := rmSea A σ ∧ rmRows A σ ∧ rmRead A σ ∧ rmSheets A σ
def Rel (σ : PS) : Prop := ∃ A, WF A ∧ RC A σ ∧ RM A σ
/-- a call of both: the same answer, and what is so between calls is so again -/
def Pair {α : Type} (f g : PS → Option (α × PS)) (σ : PS) : Prop := ∃ (v : α) (σ1 σ2 : PS), f σ = some (v, σ1) ∧ g σ1 = some (v, σ2) ∧ Rel σ2
/-- each side by itself, at one mathematical state -/
def ansC {α : Type} (f : PS → Option (α × PS)) (A : AS) (v : α) (A' : AS) : Prop := ∀ σ, RC A σ → ∃ σ', f σ = some (v, σ') ∧ RC A' σ' ∧ ∀ B, RM B σ → RM B σ'
def ansM {α : Type} (f : PS → Option (α × PS)) (A : AS) (v : α) (A' : AS) : Prop := ∀ σ, RM A σ → ∃ σ', f σ = some (v, σ') ∧ RM A' σ' ∧ ∀ B, RC B σ → RC B σ'
theorem pair_of {α : Type} {f g : PS → Option (α × PS)} {σ : PS} (h : Rel σ) (k : ∀ A, WF A → ∃ (v : α) (A' : AS), WF A' ∧ ansC f A v A' ∧ ansM g A v A') : Pair f g σ := by
  obtain ⟨A, hW, hC, hM⟩ := h
  obtain ⟨v, A', hW', h1, h2⟩ := k A hW
  obtain ⟨σ1, e1, c1, m1⟩ := h1 σ hC
  obtain ⟨σ2, e2, m2, c2⟩ := h2 σ1 (m1 A hM)
  exact ⟨v, σ1, σ2, e1, e2, A', hW', c2 A' c1, m2⟩
