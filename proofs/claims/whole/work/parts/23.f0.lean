def okb (x : Int32) : Bool := x == 0 || x == 1
def fuelN : Nat := 1000000
/-! the methods as functions, out of their code by program; and that their runs answer so -/
theorem pret_b {x : Int32} (h : okb x = true) : pret (some .boolean) [.int x] = some (some (.int x)) := by
  simp only [pret, okv]
  rw [show (x == 0 || x == 1) = true from h]
  rfl
theorem ret_inj {α β : Type} {a b : α} {s t : β} (h : some (a, s) = some (b, t)) : b = a ∧ t = s := by
  have h2 := Option.some.inj h
  exact ⟨(congrArg Prod.fst h2).symm, (congrArg Prod.snd h2).symm⟩
