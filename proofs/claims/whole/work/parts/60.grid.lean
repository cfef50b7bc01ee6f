/-! all places, cell by cell and row by row -/
def fqG {α : Type} (W K : Nat) (h : Nat → Nat → α → α) : Nat → Nat → α → α
  | 0, _, x => x
  | m + 1, q, x => fqG W K h m (q + 1) (if q % W + K ≤ W then h (q % W) (q / W) x else x)
def fcG {α : Type} (h : Nat → Nat → α → α) (r : Nat) : Nat → Nat → α → α
  | 0, _, x => x
  | j + 1, c, x => fcG h r j (c + 1) (h c r x)
def frG {α : Type} (W K : Nat) (h : Nat → Nat → α → α) : Nat → Nat → α → α
  | 0, _, x => x
  | m + 1, r, x => frG W K h m (r + 1) (fcG h r (W - K + 1) 0 x)
theorem fq_add {α : Type} (W K : Nat) (h : Nat → Nat → α → α) : ∀ a b q x, fqG W K h (a + b) q x = fqG W K h b (q + a) (fqG W K h a q x) := by
  intro a
  induction a with
  | zero => intro b q x; rw [Nat.zero_add]; rfl
  | succ a ih =>
    intro b q x
    rw [show a + 1 + b = (a + b) + 1 from by omega]
    show fqG W K h (a + b) (q + 1) _ = fqG W K h b (q + (a + 1)) (fqG W K h a (q + 1) _)
    rw [ih, show q + (a + 1) = q + 1 + a from by omega]
theorem q_mod {W r c : Nat} (hc : c < W) : (W * r + c) % W = c := by rw [Nat.mul_add_mod, Nat.mod_eq_of_lt hc]
theorem q_div {W r c : Nat} (hc : c < W) : (W * r + c) / W = r := by rw [Nat.mul_add_div (by omega), Nat.div_eq_of_lt hc, Nat.add_zero]
theorem fq_out {α : Type} (W K : Nat) (h : Nat → Nat → α → α) (r : Nat) : ∀ i c x, W < c + K → c + i ≤ W → fqG W K h i (W * r + c) x = x := by
  intro i
  induction i with
  | zero => intro c x _ _; rfl
  | succ i ih =>
    intro c x h1 h2
    show fqG W K h i (W * r + c + 1) (if (W * r + c) % W + K ≤ W then _ else x) = x
    rw [q_mod (by omega), if_neg (by omega), Nat.add_assoc]
    exact ih (c + 1) x (by omega) (by omega)
theorem fq_row {α : Type} (W K : Nat) (hK : 1 ≤ K) (hKW : K ≤ W) (h : Nat → Nat → α → α) (r : Nat) : ∀ j c x, c + j = W - K + 1 → fqG W K h (j + (K - 1)) (W * r + c) x = fcG h r j c x := by
  intro j
  induction j with
  | zero => intro c x hc; rw [Nat.zero_add]; exact fq_out W K h r (K - 1) c x (by omega) (by omega)
  | succ j ih =>
    intro c x hc
    rw [show j + 1 + (K - 1) = (j + (K - 1)) + 1 from by omega]
    show fqG W K h (j + (K - 1)) (W * r + c + 1) (if (W * r + c) % W + K ≤ W then h ((W * r + c) % W) ((W * r + c) / W) x else x) = fcG h r j (c + 1) (h c r x)
    rw [q_mod (by omega), q_div (by omega), if_pos (by omega), Nat.add_assoc]
    exact ih (c + 1) _ (by omega)
theorem fq_fr {α : Type} (W K : Nat) (hK : 1 ≤ K) (hKW : K ≤ W) (h : Nat → Nat → α → α) : ∀ m r x, fqG W K h (W * m) (W * r) x = frG W K h m r x := by
  intro m
  induction m with
  | zero => intro r x; rfl
  | succ m ih =>
    intro r x
    rw [Nat.mul_succ, Nat.add_comm (W * m) W, fq_add]
    have e := fq_row W K hK hKW h r (W - K + 1) 0 x (by omega)
    rw [show W - K + 1 + (K - 1) = W from by omega, Nat.add_zero] at e
    rw [e, show W * r + W = W * (r + 1) from (Nat.mul_succ W r).symm, ih]; rfl
theorem e_isPlaceC {A : AS} {σ : PS} (hW : WF A) (hn : aW A ≠ 0) (hC : RC A σ) {q : Nat} (hq : q < aW A * aT A) : F_X1_isPlace (nI q) σ = some (bI (decide (q % aW A + aK A ≤ aW A)), σ) := by
  have hb := wf_b hW
  have hw := wf_n hW hn
  have hm : q % aW A < aW A := Nat.mod_lt _ (by omega)
  have hd : q / aW A < aT A := Nat.div_lt_of_lt_mul hq
  have e := e_columnOf hW hC hm hd
  rw [Nat.div_add_mod] at e
  unfold F_X1_isPlace
  refine bd (e_isCell hW hC (nI q)) (cnd_f (et (vin_of_lt hq (by omega))) (bd e ?_))
  dsimp only
  rw [hC.1.1, hC.1.2.2.1, nI_add, cGt_nI (by omega) (by omega)]
  by_cases h : q % aW A + aK A ≤ aW A
  · rw [dt h, df (by omega)]; rfl
  · rw [df h, dt (by omega)]; rfl
