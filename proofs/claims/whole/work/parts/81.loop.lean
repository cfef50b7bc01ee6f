/-! the law's loop, out of the pairs -/
theorem cnd_tt {α : Type} {c : Bool} {a b x : α} (hc : c = true) (h : a = x) : (bif c then a else b) = x := by subst hc; exact h
theorem cnd_ff {α : Type} {c : Bool} {a b x : α} (hc : c = false) (h : b = x) : (bif c then a else b) = x := by subst hc; exact h
theorem bnd_s {α β : Type} {r : Option α} {f : α → Option β} {q : α} {x : Option β} (hr : r = some q) (h : f q = x) : r.bind f = x := by subst hr; exact h
theorem cEq_self (v : Int32) : cEq v v = true := by simp [cEq]
theorem lcmp_self (v : Int64) : cEq (lg_cmp v v) 0 = true := by simp [cEq, lg_cmp, Int64.lt_irrefl]
theorem vin_nI {n N : Nat} (h : n < N) (hN : N < 2 ^ 31) : vin (nI n) N = true := by
  unfold vin
  rw [decide_eq_false (nI_pos (Nat.lt_trans h hN)), nI_clamp (Nat.lt_trans h hN)]
  cases hb : Nat.ble N n with
  | false => rfl
  | true => exact absurd (Nat.le_of_ble_eq_true hb) (by omega)
theorem law_end {i L : Nat} (hi : i < 10000) (hL : L < 10000) : cGt (nI i) (Int32.ofNat L - 7) = decide (L < i + 7) := by
  unfold cGt
  have e1 : (nI i).toInt = i := nI_toInt (by omega)
  have e2 : (Int32.ofNat L - 7).toInt = (L : Int) - 7 := by
    have h7 : (7 : Int32) = nI 7 := rfl
    rw [h7]
    exact pk_sub_toInt (a := L) (b := 7) (by omega) (by omega)
  rw [decide_eq_decide, Int32.lt_iff_toInt_lt, e1, e2]
  omega
theorem law_loop (L : Nat) (xs : Nat → Int32) (hL : L ≤ 3584) : ∀ (n i : Nat) (σ : PS), L < i + 7 * n → i ≤ L + 7 → Rel σ → ∃ σ', L_law L xs (n + 1) (nI i) σ = some (1, σ') := by
  intro n
  induction n with
  | zero =>
    intro i σ h1 h2 hr
    refine ⟨σ, ?_⟩
    rw [L_law]
    exact cnd_tt (by rw [law_end (by omega) (by omega)]; exact decide_eq_true (by omega)) rfl
  | succ n ih =>
    intro i σ h1 h2 hr
    by_cases hend : L < i + 7
    · refine ⟨σ, ?_⟩
      rw [L_law]
      exact cnd_tt (by rw [law_end (by omega) (by omega)]; exact decide_eq_true hend) rfl
    have hE : cGt (nI i) (Int32.ofNat L - 7) = false := by rw [law_end (by omega) (by omega)]; exact decide_eq_false hend
    have w0 : vin (nI i) L = true := vin_nI (by omega) (by omega)
    have w1 : vin (nI i + 1) L = true := by
      rw [show (1 : Int32) = nI 1 from rfl, nI_add]
      exact vin_nI (by omega) (by omega)
    have w2 : vin (nI i + 2) L = true := by
      rw [show (2 : Int32) = nI 2 from rfl, nI_add]
      exact vin_nI (by omega) (by omega)
    have w3 : vin (nI i + 3) L = true := by
      rw [show (3 : Int32) = nI 3 from rfl, nI_add]
      exact vin_nI (by omega) (by omega)
    have w4 : vin (nI i + 4) L = true := by
      rw [show (4 : Int32) = nI 4 from rfl, nI_add]
      exact vin_nI (by omega) (by omega)
    have w5 : vin (nI i + 5) L = true := by
      rw [show (5 : Int32) = nI 5 from rfl, nI_add]
      exact vin_nI (by omega) (by omega)
    have w6 : vin (nI i + 6) L = true := by
      rw [show (6 : Int32) = nI 6 from rfl, nI_add]
      exact vin_nI (by omega) (by omega)
    have e7 : nI i + 7 = nI (i + 7) := by rw [show (7 : Int32) = nI 7 from rfl, nI_add]
    have next : ∀ σ2, Rel σ2 → ∃ σ', L_law L xs (n + 1) (nI i + 7) σ2 = some (1, σ') := by
      intro σ2 h
      rw [e7]
      exact ih (i + 7) σ2 (by omega) (by omega) h
    obtain ⟨j, hj, hy⟩ := pk_andE (xs (Int32.toNatClampNeg (nI i))) (m := 31) 5 (by decide)
    have hd : ∀ (z : Int32) (b : Bool), decide (nI j = z) = b → decide ((xs (Int32.toNatClampNeg (nI i)) &&& 31) = z) = b := fun z b h => by rw [hy]; exact h
    match j, hj, hd with
    | 0, _, hd =>
      obtain ⟨v, σ1, σ2, f1, f2, hr2⟩ := pr_sea σ hr (xs (Int32.toNatClampNeg (nI i + 1))) (xs (Int32.toNatClampNeg (nI i + 2))) (xs (Int32.toNatClampNeg (nI i + 3))) (xs (Int32.toNatClampNeg (nI i + 4)))
      obtain ⟨σ', hs⟩ := next σ2 hr2
      refine ⟨σ', ?_⟩
      rw [L_law]
      exact cnd_ff hE <| cnd_tt w0 <| cnd_tt (hd 0 true rfl) <| cnd_tt w1 <| cnd_tt w2 <| cnd_tt w3 <| cnd_tt w4 <| bnd_s f1 <| cnd_tt w1 <| cnd_tt w2 <| cnd_tt w3 <| cnd_tt w4 <| bnd_s f2 <| cnd_tt (cEq_self v) hs
    | 1, _, hd =>
      obtain ⟨v, σ1, σ2, f1, f2, hr2⟩ := pr_ofLooker σ hr (xs (Int32.toNatClampNeg (nI i + 1))) (xs (Int32.toNatClampNeg (nI i + 2)))
      obtain ⟨σ', hs⟩ := next σ2 hr2
      refine ⟨σ', ?_⟩
      rw [L_law]
      exact cnd_ff hE <| cnd_tt w0 <| cnd_ff (hd 0 false rfl) <| cnd_tt (hd 1 true rfl) <| cnd_tt w1 <| cnd_tt w2 <| bnd_s f1 <| cnd_tt w1 <| cnd_tt w2 <| bnd_s f2 <| cnd_tt (cEq_self v) hs
    | 2, _, hd =>
      obtain ⟨v, σ1, σ2, f1, f2, hr2⟩ := pr_height σ hr (xs (Int32.toNatClampNeg (nI i + 1)))
      obtain ⟨σ', hs⟩ := next σ2 hr2
      refine ⟨σ', ?_⟩
      rw [L_law]
      exact cnd_ff hE <| cnd_tt w0 <| cnd_ff (hd 0 false rfl) <| cnd_ff (hd 1 false rfl) <| cnd_tt (hd 2 true rfl) <| cnd_tt w1 <| bnd_s f1 <| cnd_tt w1 <| bnd_s f2 <| cnd_tt (cEq_self v) hs
    | 3, _, hd =>
      obtain ⟨v, σ1, σ2, f1, f2, hr2⟩ := pr_heap σ hr (xs (Int32.toNatClampNeg (nI i + 1))) (xs (Int32.toNatClampNeg (nI i + 2)))
      obtain ⟨σ', hs⟩ := next σ2 hr2
      refine ⟨σ', ?_⟩
      rw [L_law]
      exact cnd_ff hE <| cnd_tt w0 <| cnd_ff (hd 0 false rfl) <| cnd_ff (hd 1 false rfl) <| cnd_ff (hd 2 false rfl) <| cnd_tt (hd 3 true rfl) <| cnd_tt w1 <| cnd_tt w2 <| bnd_s f1 <| cnd_tt w1 <| cnd_tt w2 <| bnd_s f2 <| cnd_tt (cEq_self v) hs
    | 4, _, hd =>
      obtain ⟨v, σ1, σ2, f1, f2, hr2⟩ := pr_dim σ hr (xs (Int32.toNatClampNeg (nI i + 1))) (xs (Int32.toNatClampNeg (nI i + 2)))
      obtain ⟨σ', hs⟩ := next σ2 hr2
      refine ⟨σ', ?_⟩
      rw [L_law]
      exact cnd_ff hE <| cnd_tt w0 <| cnd_ff (hd 0 false rfl) <| cnd_ff (hd 1 false rfl) <| cnd_ff (hd 2 false rfl) <| cnd_ff (hd 3 false rfl) <| cnd_tt (hd 4 true rfl) <| cnd_tt w1 <| cnd_tt w2 <| bnd_s f1 <| cnd_tt w1 <| cnd_tt w2 <| bnd_s f2 <| cnd_tt (cEq_self v) hs
    | 5, _, hd =>
      obtain ⟨v, σ1, σ2, f1, f2, hr2⟩ := pr_scrape σ hr (xs (Int32.toNatClampNeg (nI i + 1)))
      obtain ⟨σ', hs⟩ := next σ2 hr2
      refine ⟨σ', ?_⟩
      rw [L_law]
      exact cnd_ff hE <| cnd_tt w0 <| cnd_ff (hd 0 false rfl) <| cnd_ff (hd 1 false rfl) <| cnd_ff (hd 2 false rfl) <| cnd_ff (hd 3 false rfl) <| cnd_ff (hd 4 false rfl) <| cnd_tt (hd 5 true rfl) <| cnd_tt w1 <| bnd_s f1 <| cnd_tt w1 <| bnd_s f2 <| cnd_tt (cEq_self v) hs
    | 6, _, hd =>
      obtain ⟨v, σ1, σ2, f1, f2, hr2⟩ := pr_grow σ hr (xs (Int32.toNatClampNeg (nI i + 1)))
      obtain ⟨σ', hs⟩ := next σ2 hr2
      refine ⟨σ', ?_⟩
      rw [L_law]
      exact cnd_ff hE <| cnd_tt w0 <| cnd_ff (hd 0 false rfl) <| cnd_ff (hd 1 false rfl) <| cnd_ff (hd 2 false rfl) <| cnd_ff (hd 3 false rfl) <| cnd_ff (hd 4 false rfl) <| cnd_ff (hd 5 false rfl) <| cnd_tt (hd 6 true rfl) <| cnd_tt w1 <| bnd_s f1 <| cnd_tt w1 <| bnd_s f2 <| cnd_tt (cEq_self v) hs
    | 7, _, hd =>
      obtain ⟨v, σ1, σ2, f1, f2, hr2⟩ := pr_seen σ hr 
      obtain ⟨σ', hs⟩ := next σ2 hr2
      refine ⟨σ', ?_⟩
      rw [L_law]
      exact cnd_ff hE <| cnd_tt w0 <| cnd_ff (hd 0 false rfl) <| cnd_ff (hd 1 false rfl) <| cnd_ff (hd 2 false rfl) <| cnd_ff (hd 3 false rfl) <| cnd_ff (hd 4 false rfl) <| cnd_ff (hd 5 false rfl) <| cnd_ff (hd 6 false rfl) <| cnd_tt (hd 7 true rfl) <| bnd_s f1 <| bnd_s f2 <| cnd_tt (lcmp_self v) hs
    | 8, _, hd =>
      obtain ⟨v, σ1, σ2, f1, f2, hr2⟩ := pr_step σ hr (xs (Int32.toNatClampNeg (nI i + 1)))
      obtain ⟨σ', hs⟩ := next σ2 hr2
      refine ⟨σ', ?_⟩
      rw [L_law]
      exact cnd_ff hE <| cnd_tt w0 <| cnd_ff (hd 0 false rfl) <| cnd_ff (hd 1 false rfl) <| cnd_ff (hd 2 false rfl) <| cnd_ff (hd 3 false rfl) <| cnd_ff (hd 4 false rfl) <| cnd_ff (hd 5 false rfl) <| cnd_ff (hd 6 false rfl) <| cnd_ff (hd 7 false rfl) <| cnd_tt (hd 8 true rfl) <| cnd_tt w1 <| bnd_s f1 <| cnd_tt w1 <| bnd_s f2 <| cnd_tt (cEq_self v) hs
    | 9, _, hd =>
      obtain ⟨v, σ1, σ2, f1, f2, hr2⟩ := pr_voyage σ hr (xs (Int32.toNatClampNeg (nI i + 1))) (xs (Int32.toNatClampNeg (nI i + 2))) (xs (Int32.toNatClampNeg (nI i + 3))) (xs (Int32.toNatClampNeg (nI i + 4))) (xs (Int32.toNatClampNeg (nI i + 5)))
      obtain ⟨σ', hs⟩ := next σ2 hr2
      refine ⟨σ', ?_⟩
      rw [L_law]
      exact cnd_ff hE <| cnd_tt w0 <| cnd_ff (hd 0 false rfl) <| cnd_ff (hd 1 false rfl) <| cnd_ff (hd 2 false rfl) <| cnd_ff (hd 3 false rfl) <| cnd_ff (hd 4 false rfl) <| cnd_ff (hd 5 false rfl) <| cnd_ff (hd 6 false rfl) <| cnd_ff (hd 7 false rfl) <| cnd_ff (hd 8 false rfl) <| cnd_tt (hd 9 true rfl) <| cnd_tt w1 <| cnd_tt w2 <| cnd_tt w3 <| cnd_tt w4 <| cnd_tt w5 <| bnd_s f1 <| cnd_tt w1 <| cnd_tt w2 <| cnd_tt w3 <| cnd_tt w4 <| cnd_tt w5 <| bnd_s f2 <| cnd_tt (cEq_self v) hs
    | 10, _, hd =>
      obtain ⟨v, σ1, σ2, f1, f2, hr2⟩ := pr_way σ hr (xs (Int32.toNatClampNeg (nI i + 1))) (xs (Int32.toNatClampNeg (nI i + 2)))
      obtain ⟨σ', hs⟩ := next σ2 hr2
      refine ⟨σ', ?_⟩
      rw [L_law]
      exact cnd_ff hE <| cnd_tt w0 <| cnd_ff (hd 0 false rfl) <| cnd_ff (hd 1 false rfl) <| cnd_ff (hd 2 false rfl) <| cnd_ff (hd 3 false rfl) <| cnd_ff (hd 4 false rfl) <| cnd_ff (hd 5 false rfl) <| cnd_ff (hd 6 false rfl) <| cnd_ff (hd 7 false rfl) <| cnd_ff (hd 8 false rfl) <| cnd_ff (hd 9 false rfl) <| cnd_tt (hd 10 true rfl) <| cnd_tt w1 <| cnd_tt w2 <| bnd_s f1 <| cnd_tt w1 <| cnd_tt w2 <| bnd_s f2 <| cnd_tt (cEq_self v) hs
    | 11, _, hd =>
      obtain ⟨v, σ1, σ2, f1, f2, hr2⟩ := pr_most σ hr (xs (Int32.toNatClampNeg (nI i + 1))) (xs (Int32.toNatClampNeg (nI i + 2)))
      obtain ⟨σ', hs⟩ := next σ2 hr2
      refine ⟨σ', ?_⟩
      rw [L_law]
      exact cnd_ff hE <| cnd_tt w0 <| cnd_ff (hd 0 false rfl) <| cnd_ff (hd 1 false rfl) <| cnd_ff (hd 2 false rfl) <| cnd_ff (hd 3 false rfl) <| cnd_ff (hd 4 false rfl) <| cnd_ff (hd 5 false rfl) <| cnd_ff (hd 6 false rfl) <| cnd_ff (hd 7 false rfl) <| cnd_ff (hd 8 false rfl) <| cnd_ff (hd 9 false rfl) <| cnd_ff (hd 10 false rfl) <| cnd_tt (hd 11 true rfl) <| cnd_tt w1 <| cnd_tt w2 <| bnd_s f1 <| cnd_tt w1 <| cnd_tt w2 <| bnd_s f2 <| cnd_tt (cEq_self v) hs
    | 12, _, hd =>
      obtain ⟨v, σ1, σ2, f1, f2, hr2⟩ := pr_flat σ hr (xs (Int32.toNatClampNeg (nI i + 1)))
      obtain ⟨σ', hs⟩ := next σ2 hr2
      refine ⟨σ', ?_⟩
      rw [L_law]
      exact cnd_ff hE <| cnd_tt w0 <| cnd_ff (hd 0 false rfl) <| cnd_ff (hd 1 false rfl) <| cnd_ff (hd 2 false rfl) <| cnd_ff (hd 3 false rfl) <| cnd_ff (hd 4 false rfl) <| cnd_ff (hd 5 false rfl) <| cnd_ff (hd 6 false rfl) <| cnd_ff (hd 7 false rfl) <| cnd_ff (hd 8 false rfl) <| cnd_ff (hd 9 false rfl) <| cnd_ff (hd 10 false rfl) <| cnd_ff (hd 11 false rfl) <| cnd_tt (hd 12 true rfl) <| cnd_tt w1 <| bnd_s f1 <| cnd_tt w1 <| bnd_s f2 <| cnd_tt (cEq_self v) hs
    | 13, _, hd =>
      obtain ⟨v, σ1, σ2, f1, f2, hr2⟩ := pr_begun σ hr (xs (Int32.toNatClampNeg (nI i + 1))) (xs (Int32.toNatClampNeg (nI i + 2))) (xs (Int32.toNatClampNeg (nI i + 3))) (xs (Int32.toNatClampNeg (nI i + 4))) (xs (Int32.toNatClampNeg (nI i + 5))) (xs (Int32.toNatClampNeg (nI i + 6)))
      obtain ⟨σ', hs⟩ := next σ2 hr2
      refine ⟨σ', ?_⟩
      rw [L_law]
      exact cnd_ff hE <| cnd_tt w0 <| cnd_ff (hd 0 false rfl) <| cnd_ff (hd 1 false rfl) <| cnd_ff (hd 2 false rfl) <| cnd_ff (hd 3 false rfl) <| cnd_ff (hd 4 false rfl) <| cnd_ff (hd 5 false rfl) <| cnd_ff (hd 6 false rfl) <| cnd_ff (hd 7 false rfl) <| cnd_ff (hd 8 false rfl) <| cnd_ff (hd 9 false rfl) <| cnd_ff (hd 10 false rfl) <| cnd_ff (hd 11 false rfl) <| cnd_ff (hd 12 false rfl) <| cnd_tt (hd 13 true rfl) <| cnd_tt w1 <| cnd_tt w2 <| cnd_tt w3 <| cnd_tt w4 <| cnd_tt w5 <| cnd_tt w6 <| bnd_s f1 <| cnd_tt w1 <| cnd_tt w2 <| cnd_tt w3 <| cnd_tt w4 <| cnd_tt w5 <| cnd_tt w6 <| bnd_s f2 <| cnd_tt (cEq_self v) hs
    | 14, _, hd =>
      obtain ⟨v, σ1, σ2, f1, f2, hr2⟩ := pr_run σ hr (xs (Int32.toNatClampNeg (nI i + 1))) (xs (Int32.toNatClampNeg (nI i + 2))) (xs (Int32.toNatClampNeg (nI i + 3))) (xs (Int32.toNatClampNeg (nI i + 4))) (xs (Int32.toNatClampNeg (nI i + 5)))
      obtain ⟨σ', hs⟩ := next σ2 hr2
      refine ⟨σ', ?_⟩
      rw [L_law]
      exact cnd_ff hE <| cnd_tt w0 <| cnd_ff (hd 0 false rfl) <| cnd_ff (hd 1 false rfl) <| cnd_ff (hd 2 false rfl) <| cnd_ff (hd 3 false rfl) <| cnd_ff (hd 4 false rfl) <| cnd_ff (hd 5 false rfl) <| cnd_ff (hd 6 false rfl) <| cnd_ff (hd 7 false rfl) <| cnd_ff (hd 8 false rfl) <| cnd_ff (hd 9 false rfl) <| cnd_ff (hd 10 false rfl) <| cnd_ff (hd 11 false rfl) <| cnd_ff (hd 12 false rfl) <| cnd_ff (hd 13 false rfl) <| cnd_tt (hd 14 true rfl) <| cnd_tt w1 <| cnd_tt w2 <| cnd_tt w3 <| cnd_tt w4 <| cnd_tt w5 <| bnd_s f1 <| cnd_tt w1 <| cnd_tt w2 <| cnd_tt w3 <| cnd_tt w4 <| cnd_tt w5 <| bnd_s f2 <| cnd_tt (cEq_self v) hs
    | 15, _, hd =>
      obtain ⟨v, σ1, σ2, f1, f2, hr2⟩ := pr_reading σ hr (xs (Int32.toNatClampNeg (nI i + 1))) (xs (Int32.toNatClampNeg (nI i + 2))) (xs (Int32.toNatClampNeg (nI i + 3)))
      obtain ⟨σ', hs⟩ := next σ2 hr2
      refine ⟨σ', ?_⟩
      rw [L_law]
      exact cnd_ff hE <| cnd_tt w0 <| cnd_ff (hd 0 false rfl) <| cnd_ff (hd 1 false rfl) <| cnd_ff (hd 2 false rfl) <| cnd_ff (hd 3 false rfl) <| cnd_ff (hd 4 false rfl) <| cnd_ff (hd 5 false rfl) <| cnd_ff (hd 6 false rfl) <| cnd_ff (hd 7 false rfl) <| cnd_ff (hd 8 false rfl) <| cnd_ff (hd 9 false rfl) <| cnd_ff (hd 10 false rfl) <| cnd_ff (hd 11 false rfl) <| cnd_ff (hd 12 false rfl) <| cnd_ff (hd 13 false rfl) <| cnd_ff (hd 14 false rfl) <| cnd_tt (hd 15 true rfl) <| cnd_tt w1 <| cnd_tt w2 <| cnd_tt w3 <| bnd_s f1 <| cnd_tt w1 <| cnd_tt w2 <| cnd_tt w3 <| bnd_s f2 <| cnd_tt (cEq_self v) hs
    | 16, _, hd =>
      obtain ⟨v, σ1, σ2, f1, f2, hr2⟩ := pr_back σ hr (xs (Int32.toNatClampNeg (nI i + 1)))
      obtain ⟨σ', hs⟩ := next σ2 hr2
      refine ⟨σ', ?_⟩
      rw [L_law]
      exact cnd_ff hE <| cnd_tt w0 <| cnd_ff (hd 0 false rfl) <| cnd_ff (hd 1 false rfl) <| cnd_ff (hd 2 false rfl) <| cnd_ff (hd 3 false rfl) <| cnd_ff (hd 4 false rfl) <| cnd_ff (hd 5 false rfl) <| cnd_ff (hd 6 false rfl) <| cnd_ff (hd 7 false rfl) <| cnd_ff (hd 8 false rfl) <| cnd_ff (hd 9 false rfl) <| cnd_ff (hd 10 false rfl) <| cnd_ff (hd 11 false rfl) <| cnd_ff (hd 12 false rfl) <| cnd_ff (hd 13 false rfl) <| cnd_ff (hd 14 false rfl) <| cnd_ff (hd 15 false rfl) <| cnd_tt (hd 16 true rfl) <| cnd_tt w1 <| bnd_s f1 <| cnd_tt w1 <| bnd_s f2 <| cnd_tt (cEq_self v) hs
    | 17, _, hd =>
      obtain ⟨v, σ1, σ2, f1, f2, hr2⟩ := pr_shorts σ hr (xs (Int32.toNatClampNeg (nI i + 1)))
      obtain ⟨σ', hs⟩ := next σ2 hr2
      refine ⟨σ', ?_⟩
      rw [L_law]
      exact cnd_ff hE <| cnd_tt w0 <| cnd_ff (hd 0 false rfl) <| cnd_ff (hd 1 false rfl) <| cnd_ff (hd 2 false rfl) <| cnd_ff (hd 3 false rfl) <| cnd_ff (hd 4 false rfl) <| cnd_ff (hd 5 false rfl) <| cnd_ff (hd 6 false rfl) <| cnd_ff (hd 7 false rfl) <| cnd_ff (hd 8 false rfl) <| cnd_ff (hd 9 false rfl) <| cnd_ff (hd 10 false rfl) <| cnd_ff (hd 11 false rfl) <| cnd_ff (hd 12 false rfl) <| cnd_ff (hd 13 false rfl) <| cnd_ff (hd 14 false rfl) <| cnd_ff (hd 15 false rfl) <| cnd_ff (hd 16 false rfl) <| cnd_tt (hd 17 true rfl) <| cnd_tt w1 <| bnd_s f1 <| cnd_tt w1 <| bnd_s f2 <| cnd_tt (cEq_self v) hs
    | 18, _, hd =>
      obtain ⟨v, σ1, σ2, f1, f2, hr2⟩ := pr_kinds σ hr (xs (Int32.toNatClampNeg (nI i + 1)))
      obtain ⟨σ', hs⟩ := next σ2 hr2
      refine ⟨σ', ?_⟩
      rw [L_law]
      exact cnd_ff hE <| cnd_tt w0 <| cnd_ff (hd 0 false rfl) <| cnd_ff (hd 1 false rfl) <| cnd_ff (hd 2 false rfl) <| cnd_ff (hd 3 false rfl) <| cnd_ff (hd 4 false rfl) <| cnd_ff (hd 5 false rfl) <| cnd_ff (hd 6 false rfl) <| cnd_ff (hd 7 false rfl) <| cnd_ff (hd 8 false rfl) <| cnd_ff (hd 9 false rfl) <| cnd_ff (hd 10 false rfl) <| cnd_ff (hd 11 false rfl) <| cnd_ff (hd 12 false rfl) <| cnd_ff (hd 13 false rfl) <| cnd_ff (hd 14 false rfl) <| cnd_ff (hd 15 false rfl) <| cnd_ff (hd 16 false rfl) <| cnd_ff (hd 17 false rfl) <| cnd_tt (hd 18 true rfl) <| cnd_tt w1 <| bnd_s f1 <| cnd_tt w1 <| bnd_s f2 <| cnd_tt (cEq_self v) hs
    | 19, _, hd =>
      obtain ⟨v, σ1, σ2, f1, f2, hr2⟩ := pr_odds σ hr (xs (Int32.toNatClampNeg (nI i + 1))) (xs (Int32.toNatClampNeg (nI i + 2))) (xs (Int32.toNatClampNeg (nI i + 3)))
      obtain ⟨σ', hs⟩ := next σ2 hr2
      refine ⟨σ', ?_⟩
      rw [L_law]
      exact cnd_ff hE <| cnd_tt w0 <| cnd_ff (hd 0 false rfl) <| cnd_ff (hd 1 false rfl) <| cnd_ff (hd 2 false rfl) <| cnd_ff (hd 3 false rfl) <| cnd_ff (hd 4 false rfl) <| cnd_ff (hd 5 false rfl) <| cnd_ff (hd 6 false rfl) <| cnd_ff (hd 7 false rfl) <| cnd_ff (hd 8 false rfl) <| cnd_ff (hd 9 false rfl) <| cnd_ff (hd 10 false rfl) <| cnd_ff (hd 11 false rfl) <| cnd_ff (hd 12 false rfl) <| cnd_ff (hd 13 false rfl) <| cnd_ff (hd 14 false rfl) <| cnd_ff (hd 15 false rfl) <| cnd_ff (hd 16 false rfl) <| cnd_ff (hd 17 false rfl) <| cnd_ff (hd 18 false rfl) <| cnd_tt (hd 19 true rfl) <| cnd_tt w1 <| cnd_tt w2 <| cnd_tt w3 <| bnd_s f1 <| cnd_tt w1 <| cnd_tt w2 <| cnd_tt w3 <| bnd_s f2 <| cnd_tt (lcmp_self v) hs
    | 20, _, hd =>
      obtain ⟨v, σ1, σ2, f1, f2, hr2⟩ := pr_sheet σ hr (xs (Int32.toNatClampNeg (nI i + 1))) (xs (Int32.toNatClampNeg (nI i + 2))) (xs (Int32.toNatClampNeg (nI i + 3)))
      obtain ⟨σ', hs⟩ := next σ2 hr2
      refine ⟨σ', ?_⟩
      rw [L_law]
      exact cnd_ff hE <| cnd_tt w0 <| cnd_ff (hd 0 false rfl) <| cnd_ff (hd 1 false rfl) <| cnd_ff (hd 2 false rfl) <| cnd_ff (hd 3 false rfl) <| cnd_ff (hd 4 false rfl) <| cnd_ff (hd 5 false rfl) <| cnd_ff (hd 6 false rfl) <| cnd_ff (hd 7 false rfl) <| cnd_ff (hd 8 false rfl) <| cnd_ff (hd 9 false rfl) <| cnd_ff (hd 10 false rfl) <| cnd_ff (hd 11 false rfl) <| cnd_ff (hd 12 false rfl) <| cnd_ff (hd 13 false rfl) <| cnd_ff (hd 14 false rfl) <| cnd_ff (hd 15 false rfl) <| cnd_ff (hd 16 false rfl) <| cnd_ff (hd 17 false rfl) <| cnd_ff (hd 18 false rfl) <| cnd_ff (hd 19 false rfl) <| cnd_tt (hd 20 true rfl) <| cnd_tt w1 <| cnd_tt w2 <| cnd_tt w3 <| bnd_s f1 <| cnd_tt w1 <| cnd_tt w2 <| cnd_tt w3 <| bnd_s f2 <| cnd_tt (cEq_self v) hs
    | 21, _, hd =>
      obtain ⟨v, σ1, σ2, f1, f2, hr2⟩ := pr_lose σ hr (xs (Int32.toNatClampNeg (nI i + 1)))
      obtain ⟨σ', hs⟩ := next σ2 hr2
      refine ⟨σ', ?_⟩
      rw [L_law]
      exact cnd_ff hE <| cnd_tt w0 <| cnd_ff (hd 0 false rfl) <| cnd_ff (hd 1 false rfl) <| cnd_ff (hd 2 false rfl) <| cnd_ff (hd 3 false rfl) <| cnd_ff (hd 4 false rfl) <| cnd_ff (hd 5 false rfl) <| cnd_ff (hd 6 false rfl) <| cnd_ff (hd 7 false rfl) <| cnd_ff (hd 8 false rfl) <| cnd_ff (hd 9 false rfl) <| cnd_ff (hd 10 false rfl) <| cnd_ff (hd 11 false rfl) <| cnd_ff (hd 12 false rfl) <| cnd_ff (hd 13 false rfl) <| cnd_ff (hd 14 false rfl) <| cnd_ff (hd 15 false rfl) <| cnd_ff (hd 16 false rfl) <| cnd_ff (hd 17 false rfl) <| cnd_ff (hd 18 false rfl) <| cnd_ff (hd 19 false rfl) <| cnd_ff (hd 20 false rfl) <| cnd_tt (hd 21 true rfl) <| cnd_tt w1 <| bnd_s f1 <| cnd_tt w1 <| bnd_s f2 <| cnd_tt (cEq_self v) hs
    | 22, _, hd =>
      obtain ⟨v, σ1, σ2, f1, f2, hr2⟩ := pr_put σ hr (xs (Int32.toNatClampNeg (nI i + 1))) (xs (Int32.toNatClampNeg (nI i + 2))) (xs (Int32.toNatClampNeg (nI i + 3)))
      obtain ⟨σ', hs⟩ := next σ2 hr2
      refine ⟨σ', ?_⟩
      rw [L_law]
      exact cnd_ff hE <| cnd_tt w0 <| cnd_ff (hd 0 false rfl) <| cnd_ff (hd 1 false rfl) <| cnd_ff (hd 2 false rfl) <| cnd_ff (hd 3 false rfl) <| cnd_ff (hd 4 false rfl) <| cnd_ff (hd 5 false rfl) <| cnd_ff (hd 6 false rfl) <| cnd_ff (hd 7 false rfl) <| cnd_ff (hd 8 false rfl) <| cnd_ff (hd 9 false rfl) <| cnd_ff (hd 10 false rfl) <| cnd_ff (hd 11 false rfl) <| cnd_ff (hd 12 false rfl) <| cnd_ff (hd 13 false rfl) <| cnd_ff (hd 14 false rfl) <| cnd_ff (hd 15 false rfl) <| cnd_ff (hd 16 false rfl) <| cnd_ff (hd 17 false rfl) <| cnd_ff (hd 18 false rfl) <| cnd_ff (hd 19 false rfl) <| cnd_ff (hd 20 false rfl) <| cnd_ff (hd 21 false rfl) <| cnd_tt (hd 22 true rfl) <| cnd_tt w1 <| cnd_tt w2 <| cnd_tt w3 <| bnd_s f1 <| cnd_tt w1 <| cnd_tt w2 <| cnd_tt w3 <| bnd_s f2 <| cnd_tt (cEq_self v) hs
    | 23, _, hd =>
      obtain ⟨v, σ1, σ2, f1, f2, hr2⟩ := pr_cell σ hr (xs (Int32.toNatClampNeg (nI i + 1))) (xs (Int32.toNatClampNeg (nI i + 2))) (xs (Int32.toNatClampNeg (nI i + 3)))
      obtain ⟨σ', hs⟩ := next σ2 hr2
      refine ⟨σ', ?_⟩
      rw [L_law]
      exact cnd_ff hE <| cnd_tt w0 <| cnd_ff (hd 0 false rfl) <| cnd_ff (hd 1 false rfl) <| cnd_ff (hd 2 false rfl) <| cnd_ff (hd 3 false rfl) <| cnd_ff (hd 4 false rfl) <| cnd_ff (hd 5 false rfl) <| cnd_ff (hd 6 false rfl) <| cnd_ff (hd 7 false rfl) <| cnd_ff (hd 8 false rfl) <| cnd_ff (hd 9 false rfl) <| cnd_ff (hd 10 false rfl) <| cnd_ff (hd 11 false rfl) <| cnd_ff (hd 12 false rfl) <| cnd_ff (hd 13 false rfl) <| cnd_ff (hd 14 false rfl) <| cnd_ff (hd 15 false rfl) <| cnd_ff (hd 16 false rfl) <| cnd_ff (hd 17 false rfl) <| cnd_ff (hd 18 false rfl) <| cnd_ff (hd 19 false rfl) <| cnd_ff (hd 20 false rfl) <| cnd_ff (hd 21 false rfl) <| cnd_ff (hd 22 false rfl) <| cnd_tt (hd 23 true rfl) <| cnd_tt w1 <| cnd_tt w2 <| cnd_tt w3 <| bnd_s f1 <| cnd_tt w1 <| cnd_tt w2 <| cnd_tt w3 <| bnd_s f2 <| cnd_tt (lcmp_self v) hs
    | 24, _, hd =>
      obtain ⟨v, σ1, σ2, f1, f2, hr2⟩ := pr_copy σ hr (xs (Int32.toNatClampNeg (nI i + 1))) (xs (Int32.toNatClampNeg (nI i + 2))) (xs (Int32.toNatClampNeg (nI i + 3))) (xs (Int32.toNatClampNeg (nI i + 4))) (xs (Int32.toNatClampNeg (nI i + 5)))
      obtain ⟨σ', hs⟩ := next σ2 hr2
      refine ⟨σ', ?_⟩
      rw [L_law]
      exact cnd_ff hE <| cnd_tt w0 <| cnd_ff (hd 0 false rfl) <| cnd_ff (hd 1 false rfl) <| cnd_ff (hd 2 false rfl) <| cnd_ff (hd 3 false rfl) <| cnd_ff (hd 4 false rfl) <| cnd_ff (hd 5 false rfl) <| cnd_ff (hd 6 false rfl) <| cnd_ff (hd 7 false rfl) <| cnd_ff (hd 8 false rfl) <| cnd_ff (hd 9 false rfl) <| cnd_ff (hd 10 false rfl) <| cnd_ff (hd 11 false rfl) <| cnd_ff (hd 12 false rfl) <| cnd_ff (hd 13 false rfl) <| cnd_ff (hd 14 false rfl) <| cnd_ff (hd 15 false rfl) <| cnd_ff (hd 16 false rfl) <| cnd_ff (hd 17 false rfl) <| cnd_ff (hd 18 false rfl) <| cnd_ff (hd 19 false rfl) <| cnd_ff (hd 20 false rfl) <| cnd_ff (hd 21 false rfl) <| cnd_ff (hd 22 false rfl) <| cnd_ff (hd 23 false rfl) <| cnd_tt (hd 24 true rfl) <| cnd_tt w1 <| cnd_tt w2 <| cnd_tt w3 <| cnd_tt w4 <| cnd_tt w5 <| bnd_s f1 <| cnd_tt w1 <| cnd_tt w2 <| cnd_tt w3 <| cnd_tt w4 <| cnd_tt w5 <| bnd_s f2 <| cnd_tt (cEq_self v) hs
    | 25, _, hd =>
      obtain ⟨v, σ1, σ2, f1, f2, hr2⟩ := pr_tell σ hr (xs (Int32.toNatClampNeg (nI i + 1)))
      obtain ⟨σ', hs⟩ := next σ2 hr2
      refine ⟨σ', ?_⟩
      rw [L_law]
      exact cnd_ff hE <| cnd_tt w0 <| cnd_ff (hd 0 false rfl) <| cnd_ff (hd 1 false rfl) <| cnd_ff (hd 2 false rfl) <| cnd_ff (hd 3 false rfl) <| cnd_ff (hd 4 false rfl) <| cnd_ff (hd 5 false rfl) <| cnd_ff (hd 6 false rfl) <| cnd_ff (hd 7 false rfl) <| cnd_ff (hd 8 false rfl) <| cnd_ff (hd 9 false rfl) <| cnd_ff (hd 10 false rfl) <| cnd_ff (hd 11 false rfl) <| cnd_ff (hd 12 false rfl) <| cnd_ff (hd 13 false rfl) <| cnd_ff (hd 14 false rfl) <| cnd_ff (hd 15 false rfl) <| cnd_ff (hd 16 false rfl) <| cnd_ff (hd 17 false rfl) <| cnd_ff (hd 18 false rfl) <| cnd_ff (hd 19 false rfl) <| cnd_ff (hd 20 false rfl) <| cnd_ff (hd 21 false rfl) <| cnd_ff (hd 22 false rfl) <| cnd_ff (hd 23 false rfl) <| cnd_ff (hd 24 false rfl) <| cnd_tt (hd 25 true rfl) <| cnd_tt w1 <| bnd_s f1 <| cnd_tt w1 <| bnd_s f2 <| cnd_tt (cEq_self v) hs
    | 26, _, hd =>
      obtain ⟨v, σ1, σ2, f1, f2, hr2⟩ := pr_greet σ hr (xs (Int32.toNatClampNeg (nI i + 1)))
      obtain ⟨σ', hs⟩ := next σ2 hr2
      refine ⟨σ', ?_⟩
      rw [L_law]
      exact cnd_ff hE <| cnd_tt w0 <| cnd_ff (hd 0 false rfl) <| cnd_ff (hd 1 false rfl) <| cnd_ff (hd 2 false rfl) <| cnd_ff (hd 3 false rfl) <| cnd_ff (hd 4 false rfl) <| cnd_ff (hd 5 false rfl) <| cnd_ff (hd 6 false rfl) <| cnd_ff (hd 7 false rfl) <| cnd_ff (hd 8 false rfl) <| cnd_ff (hd 9 false rfl) <| cnd_ff (hd 10 false rfl) <| cnd_ff (hd 11 false rfl) <| cnd_ff (hd 12 false rfl) <| cnd_ff (hd 13 false rfl) <| cnd_ff (hd 14 false rfl) <| cnd_ff (hd 15 false rfl) <| cnd_ff (hd 16 false rfl) <| cnd_ff (hd 17 false rfl) <| cnd_ff (hd 18 false rfl) <| cnd_ff (hd 19 false rfl) <| cnd_ff (hd 20 false rfl) <| cnd_ff (hd 21 false rfl) <| cnd_ff (hd 22 false rfl) <| cnd_ff (hd 23 false rfl) <| cnd_ff (hd 24 false rfl) <| cnd_ff (hd 25 false rfl) <| cnd_tt (hd 26 true rfl) <| cnd_tt w1 <| bnd_s f1 <| cnd_tt w1 <| bnd_s f2 <| cnd_tt (cEq_self v) hs
    | 27, _, hd =>
      obtain ⟨v, σ1, σ2, f1, f2, hr2⟩ := pr_as σ hr (xs (Int32.toNatClampNeg (nI i + 1))) (xs (Int32.toNatClampNeg (nI i + 2)))
      obtain ⟨σ', hs⟩ := next σ2 hr2
      refine ⟨σ', ?_⟩
      rw [L_law]
      exact cnd_ff hE <| cnd_tt w0 <| cnd_ff (hd 0 false rfl) <| cnd_ff (hd 1 false rfl) <| cnd_ff (hd 2 false rfl) <| cnd_ff (hd 3 false rfl) <| cnd_ff (hd 4 false rfl) <| cnd_ff (hd 5 false rfl) <| cnd_ff (hd 6 false rfl) <| cnd_ff (hd 7 false rfl) <| cnd_ff (hd 8 false rfl) <| cnd_ff (hd 9 false rfl) <| cnd_ff (hd 10 false rfl) <| cnd_ff (hd 11 false rfl) <| cnd_ff (hd 12 false rfl) <| cnd_ff (hd 13 false rfl) <| cnd_ff (hd 14 false rfl) <| cnd_ff (hd 15 false rfl) <| cnd_ff (hd 16 false rfl) <| cnd_ff (hd 17 false rfl) <| cnd_ff (hd 18 false rfl) <| cnd_ff (hd 19 false rfl) <| cnd_ff (hd 20 false rfl) <| cnd_ff (hd 21 false rfl) <| cnd_ff (hd 22 false rfl) <| cnd_ff (hd 23 false rfl) <| cnd_ff (hd 24 false rfl) <| cnd_ff (hd 25 false rfl) <| cnd_ff (hd 26 false rfl) <| cnd_tt (hd 27 true rfl) <| cnd_tt w1 <| cnd_tt w2 <| bnd_s f1 <| cnd_tt w1 <| cnd_tt w2 <| bnd_s f2 <| cnd_tt (cEq_self v) hs
    | 28, _, hd =>
      obtain ⟨v, σ1, σ2, f1, f2, hr2⟩ := pr_trace σ hr 
      obtain ⟨σ', hs⟩ := next σ2 hr2
      refine ⟨σ', ?_⟩
      rw [L_law]
      exact cnd_ff hE <| cnd_tt w0 <| cnd_ff (hd 0 false rfl) <| cnd_ff (hd 1 false rfl) <| cnd_ff (hd 2 false rfl) <| cnd_ff (hd 3 false rfl) <| cnd_ff (hd 4 false rfl) <| cnd_ff (hd 5 false rfl) <| cnd_ff (hd 6 false rfl) <| cnd_ff (hd 7 false rfl) <| cnd_ff (hd 8 false rfl) <| cnd_ff (hd 9 false rfl) <| cnd_ff (hd 10 false rfl) <| cnd_ff (hd 11 false rfl) <| cnd_ff (hd 12 false rfl) <| cnd_ff (hd 13 false rfl) <| cnd_ff (hd 14 false rfl) <| cnd_ff (hd 15 false rfl) <| cnd_ff (hd 16 false rfl) <| cnd_ff (hd 17 false rfl) <| cnd_ff (hd 18 false rfl) <| cnd_ff (hd 19 false rfl) <| cnd_ff (hd 20 false rfl) <| cnd_ff (hd 21 false rfl) <| cnd_ff (hd 22 false rfl) <| cnd_ff (hd 23 false rfl) <| cnd_ff (hd 24 false rfl) <| cnd_ff (hd 25 false rfl) <| cnd_ff (hd 26 false rfl) <| cnd_ff (hd 27 false rfl) <| cnd_tt (hd 28 true rfl) <| bnd_s f1 <| bnd_s f2 <| cnd_tt (cEq_self v) hs
    | 29, _, hd =>
      obtain ⟨v, σ1, σ2, f1, f2, hr2⟩ := pr_fault σ hr 
      obtain ⟨σ', hs⟩ := next σ2 hr2
      refine ⟨σ', ?_⟩
      rw [L_law]
      exact cnd_ff hE <| cnd_tt w0 <| cnd_ff (hd 0 false rfl) <| cnd_ff (hd 1 false rfl) <| cnd_ff (hd 2 false rfl) <| cnd_ff (hd 3 false rfl) <| cnd_ff (hd 4 false rfl) <| cnd_ff (hd 5 false rfl) <| cnd_ff (hd 6 false rfl) <| cnd_ff (hd 7 false rfl) <| cnd_ff (hd 8 false rfl) <| cnd_ff (hd 9 false rfl) <| cnd_ff (hd 10 false rfl) <| cnd_ff (hd 11 false rfl) <| cnd_ff (hd 12 false rfl) <| cnd_ff (hd 13 false rfl) <| cnd_ff (hd 14 false rfl) <| cnd_ff (hd 15 false rfl) <| cnd_ff (hd 16 false rfl) <| cnd_ff (hd 17 false rfl) <| cnd_ff (hd 18 false rfl) <| cnd_ff (hd 19 false rfl) <| cnd_ff (hd 20 false rfl) <| cnd_ff (hd 21 false rfl) <| cnd_ff (hd 22 false rfl) <| cnd_ff (hd 23 false rfl) <| cnd_ff (hd 24 false rfl) <| cnd_ff (hd 25 false rfl) <| cnd_ff (hd 26 false rfl) <| cnd_ff (hd 27 false rfl) <| cnd_ff (hd 28 false rfl) <| cnd_tt (hd 29 true rfl) <| bnd_s f1 <| bnd_s f2 <| cnd_tt (cEq_self v) hs
    | 30, _, hd =>
      obtain ⟨v, σ1, σ2, f1, f2, hr2⟩ := pr_many σ hr (xs (Int32.toNatClampNeg (nI i + 1)))
      obtain ⟨σ', hs⟩ := next σ2 hr2
      refine ⟨σ', ?_⟩
      rw [L_law]
      exact cnd_ff hE <| cnd_tt w0 <| cnd_ff (hd 0 false rfl) <| cnd_ff (hd 1 false rfl) <| cnd_ff (hd 2 false rfl) <| cnd_ff (hd 3 false rfl) <| cnd_ff (hd 4 false rfl) <| cnd_ff (hd 5 false rfl) <| cnd_ff (hd 6 false rfl) <| cnd_ff (hd 7 false rfl) <| cnd_ff (hd 8 false rfl) <| cnd_ff (hd 9 false rfl) <| cnd_ff (hd 10 false rfl) <| cnd_ff (hd 11 false rfl) <| cnd_ff (hd 12 false rfl) <| cnd_ff (hd 13 false rfl) <| cnd_ff (hd 14 false rfl) <| cnd_ff (hd 15 false rfl) <| cnd_ff (hd 16 false rfl) <| cnd_ff (hd 17 false rfl) <| cnd_ff (hd 18 false rfl) <| cnd_ff (hd 19 false rfl) <| cnd_ff (hd 20 false rfl) <| cnd_ff (hd 21 false rfl) <| cnd_ff (hd 22 false rfl) <| cnd_ff (hd 23 false rfl) <| cnd_ff (hd 24 false rfl) <| cnd_ff (hd 25 false rfl) <| cnd_ff (hd 26 false rfl) <| cnd_ff (hd 27 false rfl) <| cnd_ff (hd 28 false rfl) <| cnd_ff (hd 29 false rfl) <| cnd_tt (hd 30 true rfl) <| cnd_tt w1 <| bnd_s f1 <| cnd_tt w1 <| bnd_s f2 <| cnd_tt (cEq_self v) hs
    | 31, _, hd =>
      obtain ⟨σ', hs⟩ := next σ hr
      refine ⟨σ', ?_⟩
      rw [L_law]
      exact cnd_ff hE <| cnd_tt w0 <| cnd_ff (hd 0 false rfl) <| cnd_ff (hd 1 false rfl) <| cnd_ff (hd 2 false rfl) <| cnd_ff (hd 3 false rfl) <| cnd_ff (hd 4 false rfl) <| cnd_ff (hd 5 false rfl) <| cnd_ff (hd 6 false rfl) <| cnd_ff (hd 7 false rfl) <| cnd_ff (hd 8 false rfl) <| cnd_ff (hd 9 false rfl) <| cnd_ff (hd 10 false rfl) <| cnd_ff (hd 11 false rfl) <| cnd_ff (hd 12 false rfl) <| cnd_ff (hd 13 false rfl) <| cnd_ff (hd 14 false rfl) <| cnd_ff (hd 15 false rfl) <| cnd_ff (hd 16 false rfl) <| cnd_ff (hd 17 false rfl) <| cnd_ff (hd 18 false rfl) <| cnd_ff (hd 19 false rfl) <| cnd_ff (hd 20 false rfl) <| cnd_ff (hd 21 false rfl) <| cnd_ff (hd 22 false rfl) <| cnd_ff (hd 23 false rfl) <| cnd_ff (hd 24 false rfl) <| cnd_ff (hd 25 false rfl) <| cnd_ff (hd 26 false rfl) <| cnd_ff (hd 27 false rfl) <| cnd_ff (hd 28 false rfl) <| cnd_ff (hd 29 false rfl) <| cnd_ff (hd 30 false rfl) <| hs
    | j + 32, hj, hd => exact absurd hj (by omega)
theorem law_pure (L : Nat) (xs : Nat → Int32) (hL : L ≤ 3584) : ∃ (n : Nat) (w' : pW), pexec (tbL L xs) (lawrec n) n (0, [some (.float 0), none, none, none], [], []) = some (some (.int 1), w') ∧ w'.length = 34 ∧ wsl w' = 894 := by
  obtain ⟨σ', h⟩ := law_loop L xs hL 999999 0 σ0 (by omega) (by omega) rel_start
  exact law_of_run L xs σ' h
