/-! sea: the model's loops over a TEXT -/
def FrR (σ σ' : PS) : Prop := (∀ z, (z < 1228 ∨ 1233 < z) → gI σ' z = gI σ z) ∧ (∀ z, gL σ' z = gL σ z) ∧ ∀ a, (a < 23 ∨ 25 < a) → ∀ i, gA σ' a i = gA σ a i
theorem FrR.rf {σ : PS} : FrR σ σ := ⟨fun _ _ => rfl, fun _ => rfl, fun _ _ _ => rfl⟩
theorem FrR.tr {a b c : PS} (h : FrR a b) (h2 : FrR b c) : FrR a c := ⟨fun z q => (h2.1 z q).trans (h.1 z q), fun z => (h2.2.1 z).trans (h.2.1 z), fun z q i => (h2.2.2 z q i).trans (h.2.2 z q i)⟩
theorem FrR.sI {σ : PS} {z : Nat} {v : Int32} (h1 : 1228 ≤ z) (h2 : z ≤ 1233) : FrR σ (sI σ z v) := ⟨fun y hy => by rw [gI_sI, if_neg (by omega)], fun _ => rfl, fun _ _ _ => rfl⟩
theorem FrR.d {σ σ' : PS} {n b : Nat} {d : Nat → Int32} (h : FrR σ σ') (hd : ∀ y, y < n → gA σ 32 (b + y) = d y) : ∀ y, y < n → gA σ' 32 (b + y) = d y := fun y hy => (h.2.2 32 (by decide) _).trans (hd y hy)
theorem tlM {n b : Nat} {d : Nat → Int32} {σ : PS} {W T p k : Nat} (hn : n ≤ 60) (hb : b + n ≤ 240) (hd : ∀ y, y < n → gA σ 32 (b + y) = d y) (hp : gI σ 1228 = nI p) (hp2 : p < 900) (hk : gI σ 1231 = nI k) (hk1 : 0 < k) (hkW : k ≤ W) (hW : gI σ 1229 = nI W) (hT : gI σ 1230 = nI T) (hW6 : W ≤ 6) (hT1 : 1 ≤ T) (hT6 : T ≤ 6) : ∃ σ', ((F_X5_figure (nI b) (nI n) 0 0 (gI (sI σ 1228 (gI σ 1228 + 1)) 1229 - gI (sI σ 1228 (gI σ 1228 + 1)) 1231) (sI σ 1228 (gI σ 1228 + 1))).bind fun q1 => (F_X5_figure (nI b) (nI n) (gI (sI q1.2 1232 q1.1) 1232) 0 (gI (sI q1.2 1232 q1.1) 1230 - 1) (sI q1.2 1232 q1.1)).bind fun q2 => bif cLt (gI (sI q2.2 1233 q2.1) 1233) 0 then some (0, sI q2.2 1233 q2.1) else (bif cNe (gI (sI q2.2 1233 q2.1) 1228) (nI n) then some (0, sI q2.2 1233 q2.1) else some (1, sI q2.2 1233 q2.1))) = some (bI (decide (tailF n d W T p k = 0)), σ') ∧ FrR σ σ' ∧ (∀ z, z ≠ 1228 → z ≠ 1232 → z ≠ 1233 → gI σ' z = gI σ z) ∧ (∀ a y, gA σ' a y = gA σ a y) ∧ (∀ z, tailF n d W T p k = z + 1 → gI σ' 1228 = nI z) ∧ (tailF n d W T p k = 0 → gI σ' 1232 = nI (dgN n d (p + 1) - 1) ∧ gI σ' 1233 = nI (dgN n d (p + 2) - 1)) := by
  have dg1 : dgN n d (p + 1) ≤ 10 := dgv_le _
  have dg2 : dgN n d (p + 2) ≤ 10 := dgv_le _
  have e0 : sI σ 1228 (gI σ 1228 + 1) = sI σ 1228 (nI (p + 1)) := by rw [hp, nI_1]
  have hS1 : gI (sI σ 1228 (nI (p + 1))) 1228 = nI (p + 1) := by rw [gI_sI, if_pos rfl]
  rw [e0, show gI (sI σ 1228 (nI (p + 1))) 1229 = nI W from by rw [gI_sI, if_neg (by decide)]; exact hW, show gI (sI σ 1228 (nI (p + 1))) 1231 = nI k from by rw [gI_sI, if_neg (by decide)]; exact hk, pk_sub hkW]
  have f1 := e_fig (n := n) (b := b) (d := d) (lo := 0) (hi := W - k) (p2 := 0) hb (σ := sI σ 1228 (nI (p + 1))) hd hS1 (by omega) (by decide) (by omega) (by decide)
  rw [nI_0] at f1
  have hB1 : figB n d (p + 1) 0 (W - k) = decide (dgN n d (p + 1) ≠ 0 ∧ dgN n d (p + 1) - 1 + k ≤ W) := by
    unfold figB
    rw [decide_eq_decide]
    omega
  rw [hB1] at f1
  have hB2 : figB n d (p + 2) 0 (T - 1) = decide (dgN n d (p + 2) ≠ 0 ∧ dgN n d (p + 2) - 1 < T) := by
    unfold figB
    rw [decide_eq_decide]
    omega
  have hT0 : ∀ s : PS, gI s 1230 = nI T → gI s 1230 - 1 = nI (T - 1) := fun s h => by rw [h]; exact pk_sub (a := T) (b := 1) hT1
  by_cases c1 : dgN n d (p + 1) ≠ 0 ∧ dgN n d (p + 1) - 1 + k ≤ W
  · rw [dt c1, cond_true, cond_true] at f1
    have s1230 : gI (sI (sI (sI σ 1228 (nI (p + 1))) 1228 (nI (p + 1 + 1))) 1232 (nI (dgN n d (p + 1) - 1))) 1230 = nI T := by rw [gI_sI, if_neg (by decide), gI_sI, if_neg (by decide), gI_sI, if_neg (by decide)]; exact hT
    have s1228 : gI (sI (sI (sI σ 1228 (nI (p + 1))) 1228 (nI (p + 1 + 1))) 1232 (nI (dgN n d (p + 1) - 1))) 1228 = nI (p + 2) := by rw [gI_sI, if_neg (by decide), gI_sI, if_pos rfl]
    have f2 := e_fig (n := n) (b := b) (d := d) (lo := 0) (hi := T - 1) (p2 := nI (dgN n d (p + 1) - 1)) hb (σ := sI (sI (sI σ 1228 (nI (p + 1))) 1228 (nI (p + 1 + 1))) 1232 (nI (dgN n d (p + 1) - 1))) hd s1228 (by omega) (by decide) (by omega) (cGe_p (by omega))
    rw [hB2, nI_0, ← hT0 _ s1230] at f2
    by_cases c2 : dgN n d (p + 2) ≠ 0 ∧ dgN n d (p + 2) - 1 < T
    · rw [dt c2, cond_true, cond_true] at f2
      have ht : tailF n d W T p k = if p + 3 = n then 0 else p + 4 := by
        unfold tailF
        rw [if_neg c1.1, if_neg (by omega), if_neg c2.1, if_neg (by omega)]
      rw [ht]
      refine ⟨sI (sI (sI (sI (sI σ 1228 (nI (p + 1))) 1228 (nI (p + 1 + 1))) 1232 (nI (dgN n d (p + 1) - 1))) 1228 (nI (p + 2 + 1))) 1233 (nI (dgN n d (p + 2) - 1)), bd f1 (bd (a := nI (dgN n d (p + 2) - 1)) (σ := sI (sI (sI (sI σ 1228 (nI (p + 1))) 1228 (nI (p + 1 + 1))) 1232 (nI (dgN n d (p + 1) - 1))) 1228 (nI (p + 2 + 1))) ?_ ?_), ((((FrR.sI (by decide) (by decide)).tr (FrR.sI (by decide) (by decide))).tr (FrR.sI (by decide) (by decide))).tr (FrR.sI (by decide) (by decide))).tr (FrR.sI (by decide) (by decide)), fun z z1 z2 z3 => ?_, fun _ _ => rfl, fun z hz => ?_, fun _ => ⟨?_, ?_⟩⟩
      · dsimp only
        rw [show gI (sI (sI (sI σ 1228 (nI (p + 1))) 1228 (nI (p + 1 + 1))) 1232 (nI (dgN n d (p + 1) - 1))) 1232 = nI (dgN n d (p + 1) - 1) from by rw [gI_sI, if_pos rfl]]
        exact f2
      · refine cnd_f ?_ ?_
        · dsimp only
          rw [gI_sI, if_pos rfl]; exact cLt_pos (by omega)
        · dsimp only
          rw [gI_sI, if_neg (by decide), gI_sI, if_pos rfl, cNe_nI (by omega) (by omega)]
          by_cases c3 : p + 3 = n
          · rw [dt (show p + 2 + 1 = n by omega), if_pos c3]; rfl
          · rw [df (show ¬ p + 2 + 1 = n by omega), if_neg c3]; rfl
      · rw [gI_sI, if_neg z3, gI_sI, if_neg z1, gI_sI, if_neg z2, gI_sI, if_neg z1, gI_sI, if_neg z1]
      · split at hz
        · omega
        · rw [gI_sI, if_neg (by decide), gI_sI, if_pos rfl, show p + 2 + 1 = z from by omega]
      · rw [gI_sI, if_neg (by decide), gI_sI, if_neg (by decide), gI_sI, if_pos rfl]
      · rw [gI_sI, if_pos rfl]
    · rw [df c2, cond_false, cond_false] at f2
      have ht : tailF n d W T p k = p + 3 := by
        unfold tailF
        rw [if_neg c1.1, if_neg (by omega)]
        by_cases q : dgN n d (p + 2) = 0
        · rw [if_pos q]
        · rw [if_neg q, if_pos (by omega)]
      rw [ht]
      refine ⟨sI (sI (sI (sI (sI σ 1228 (nI (p + 1))) 1228 (nI (p + 1 + 1))) 1232 (nI (dgN n d (p + 1) - 1))) 1228 (nI (p + 2 + 0))) 1233 (-9), bd f1 (bd (a := -9) (σ := sI (sI (sI (sI σ 1228 (nI (p + 1))) 1228 (nI (p + 1 + 1))) 1232 (nI (dgN n d (p + 1) - 1))) 1228 (nI (p + 2 + 0))) ?_ ?_), ((((FrR.sI (by decide) (by decide)).tr (FrR.sI (by decide) (by decide))).tr (FrR.sI (by decide) (by decide))).tr (FrR.sI (by decide) (by decide))).tr (FrR.sI (by decide) (by decide)), fun z z1 z2 z3 => ?_, fun _ _ => rfl, fun z hz => ?_, fun q => by omega⟩
      · dsimp only
        rw [show gI (sI (sI (sI σ 1228 (nI (p + 1))) 1228 (nI (p + 1 + 1))) 1232 (nI (dgN n d (p + 1) - 1))) 1232 = nI (dgN n d (p + 1) - 1) from by rw [gI_sI, if_pos rfl]]
        exact f2
      · refine cnd_t ?_ ?_
        · dsimp only
          rw [gI_sI, if_pos rfl]; decide
        · rw [df (by omega)]; rfl
      · rw [gI_sI, if_neg z3, gI_sI, if_neg z1, gI_sI, if_neg z2, gI_sI, if_neg z1, gI_sI, if_neg z1]
      · rw [gI_sI, if_neg (by decide), gI_sI, if_pos rfl, show p + 2 + 0 = z from by omega]
  · rw [df c1, cond_false, cond_false] at f1
    have ht : tailF n d W T p k = p + 2 := by
      unfold tailF
      by_cases q : dgN n d (p + 1) = 0
      · rw [if_pos q]
      · rw [if_neg q, if_pos (by omega)]
    rw [ht]
    have s1230 : gI (sI (sI (sI σ 1228 (nI (p + 1))) 1228 (nI (p + 1 + 0))) 1232 (-9)) 1230 = nI T := by rw [gI_sI, if_neg (by decide), gI_sI, if_neg (by decide), gI_sI, if_neg (by decide)]; exact hT
    have s1228 : gI (sI (sI (sI σ 1228 (nI (p + 1))) 1228 (nI (p + 1 + 0))) 1232 (-9)) 1228 = nI (p + 1) := by rw [gI_sI, if_neg (by decide), gI_sI, if_pos rfl, Nat.add_zero]
    have f2 := e_figN (n := n) (b := b) (lo := 0) (hi := T - 1) (p2 := -9) (σ := sI (sI (sI σ 1228 (nI (p + 1))) 1228 (nI (p + 1 + 0))) 1232 (-9)) s1228 (by decide) (by omega) (by decide)
    rw [nI_0, ← hT0 _ s1230] at f2
    refine ⟨sI (sI (sI (sI (sI σ 1228 (nI (p + 1))) 1228 (nI (p + 1 + 0))) 1232 (-9)) 1228 (nI (p + 1))) 1233 (-9), bd f1 (bd (a := -9) (σ := sI (sI (sI (sI σ 1228 (nI (p + 1))) 1228 (nI (p + 1 + 0))) 1232 (-9)) 1228 (nI (p + 1))) ?_ ?_), ((((FrR.sI (by decide) (by decide)).tr (FrR.sI (by decide) (by decide))).tr (FrR.sI (by decide) (by decide))).tr (FrR.sI (by decide) (by decide))).tr (FrR.sI (by decide) (by decide)), fun z z1 z2 z3 => ?_, fun _ _ => rfl, fun z hz => ?_, fun q => by omega⟩
    · dsimp only
      rw [show gI (sI (sI (sI σ 1228 (nI (p + 1))) 1228 (nI (p + 1 + 0))) 1232 (-9)) 1232 = -9 from by rw [gI_sI, if_pos rfl]]
      exact f2
    · refine cnd_t ?_ ?_
      · dsimp only
        rw [gI_sI, if_pos rfl]; decide
      · rw [df (by omega)]; rfl
    · rw [gI_sI, if_neg z3, gI_sI, if_neg z1, gI_sI, if_neg z2, gI_sI, if_neg z1, gI_sI, if_neg z1]
    · rw [gI_sI, if_neg (by decide), gI_sI, if_pos rfl, show p + 1 = z from by omega]
theorem rs_false {n b : Nat} (f : Nat) (σ : PS) : L_X5_readsSea (f + 1) (nI b) (nI n) (bI false) σ = some (bI false, σ) := by
  rw [L_X5_readsSea]
  exact cnd_t (ef rfl) (cnd_f (nf rfl) rfl)
/-- what has been read of lookers -/
theorem rsl_run {n b : Nat} {d : Nat → Int32} {W T e : Nat} (hn : n ≤ 60) (hb : b + n ≤ 240) (hW2 : 2 ≤ W) (hW6 : W ≤ 6) (hT1 : 1 ≤ T) (hT6 : T ≤ 6) (he : e < 50) : ∀ (m f k : Nat) (σ : PS), k + m = min W 4 → m + 2 < f → (∀ y, y < n → gA σ 32 (b + y) = d y) → gI σ 1228 = nI (e + 3 * k) → gI σ 1231 = nI k → gI σ 1229 = nI W → gI σ 1230 = nI T → ∃ σ', L_X5_readsSea f (nI b) (nI n) (bI true) σ = some (bI (decide (lookF n d W T e m k = 0)), σ') ∧ FrR σ σ' ∧ gI σ' 1229 = nI W ∧ gI σ' 1230 = nI T ∧ (∀ y, gA σ' 23 y = gA σ 23 y) ∧ (∀ z, lookF n d W T e m k = z + 1 → gI σ' 1228 = nI z) ∧ (lookF n d W T e m k = 0 → gI σ' 1231 = nI (lookK n d e m k) ∧ gI σ' 1232 = nI (dgN n d (e + 3 * lookK n d e m k + 1) - 1) ∧ gI σ' 1233 = nI (dgN n d (e + 3 * lookK n d e m k + 2) - 1) ∧ (∀ j, j < k → gA σ' 24 j = gA σ 24 j ∧ gA σ' 25 j = gA σ 25 j) ∧ ∀ j, k ≤ j → j < lookK n d e m k → gA σ' 24 j = nI (kdN n d (e + 3 * j + 1) - 1) ∧ gA σ' 25 j = nI (dgN n d (e + 3 * j + 2) - 1)) := by
  have tail : ∀ (f k : Nat) (σ : PS), k ≤ min W 4 → 0 < k → isN n d (e + 3 * k) 47 = true → (∀ y, y < n → gA σ 32 (b + y) = d y) → gI σ 1228 = nI (e + 3 * k) → gI σ 1231 = nI k → gI σ 1229 = nI W → gI σ 1230 = nI T → ∃ σ', L_X5_readsSea (f + 1) (nI b) (nI n) (bI true) σ = some (bI (decide (tailF n d W T (e + 3 * k) k = 0)), σ') ∧ FrR σ σ' ∧ gI σ' 1229 = nI W ∧ gI σ' 1230 = nI T ∧ (∀ y, gA σ' 23 y = gA σ 23 y) ∧ (∀ z, tailF n d W T (e + 3 * k) k = z + 1 → gI σ' 1228 = nI z) ∧ (tailF n d W T (e + 3 * k) k = 0 → gI σ' 1231 = nI k ∧ gI σ' 1232 = nI (dgN n d (e + 3 * k + 1) - 1) ∧ gI σ' 1233 = nI (dgN n d (e + 3 * k + 2) - 1) ∧ (∀ j, j < k → gA σ' 24 j = gA σ 24 j ∧ gA σ' 25 j = gA σ 25 j) ∧ ∀ j, k ≤ j → j < k → gA σ' 24 j = nI (kdN n d (e + 3 * j + 1) - 1) ∧ gA σ' 25 j = nI (dgN n d (e + 3 * j + 2) - 1)) := by
    intro f k σ hk hk0 h47 hd s1 s2 s3 s4
    obtain ⟨σ', e1, a1, a2, a3, a4, a5⟩ := tlM hn hb hd s1 (by omega) s2 hk0 (by omega) s3 s4 hW6 hT1 hT6
    refine ⟨σ', ?_, a1, (a2 1229 (by decide) (by decide) (by decide)).trans s3, (a2 1230 (by decide) (by decide) (by decide)).trans s4, fun y => a3 23 y, a4, fun q => ⟨(a2 1231 (by decide) (by decide) (by decide)).trans s2, (a5 q).1, (a5 q).2, fun j _ => ⟨a3 24 j, a3 25 j⟩, fun j h1 h2 => by omega⟩⟩
    rw [L_X5_readsSea]
    refine cnd_f (et rfl) (cnd_f ?_ (bd (e_codeM hb hd s1 (by omega)) (cnd_t ?_ (cnd_t (nt rfl) e1))))
    · rw [s2]; exact (cEq_nI (b := 0) (by omega) (by decide)).trans (df (by omega))
    · dsimp only
      rw [cEq_d, cd9 _ (by decide) (by decide)]; exact h47
  have toRL : ∀ (f k : Nat) (σ : PS), k ≤ min W 4 → ¬ (isN n d (e + 3 * k) 47 = true ∧ 0 < k) → (∀ y, y < n → gA σ 32 (b + y) = d y) → gI σ 1228 = nI (e + 3 * k) → gI σ 1231 = nI k → ∀ (v : Int32) (σ1 : PS) (X : Option (Int32 × PS)), F_X5_readsLooker (nI b) (nI n) σ = some (v, σ1) → L_X5_readsSea f (nI b) (nI n) v σ1 = X → L_X5_readsSea (f + 1) (nI b) (nI n) (bI true) σ = X := by
    intro f k σ hk hno hd s1 s2 v σ1 X h1 h2
    rw [L_X5_readsSea]
    refine cnd_f (et rfl) ?_
    by_cases hk0 : k = 0
    · refine cnd_t ?_ (bd h1 h2)
      rw [s2, hk0]; decide
    · refine cnd_f ?_ (bd (e_codeM hb hd s1 (by omega)) (cnd_f ?_ (bd h1 h2)))
      · rw [s2]; exact (cEq_nI (b := 0) (by omega) (by decide)).trans (df hk0)
      · dsimp only
        rw [cEq_d, cd9 _ (by decide) (by decide)]
        cases hq : isN n d (e + 3 * k) 47 with
        | false => rfl
        | true => exact absurd ⟨hq, by omega⟩ hno
  intro m
  induction m with
  | zero =>
    intro f k σ hk hf hd s1 s2 s3 s4
    obtain ⟨f, rfl⟩ : ∃ f', f = f' + 1 + 1 := ⟨f - 2, by omega⟩
    by_cases hq : isN n d (e + 3 * k) 47 = true ∧ 0 < k
    · rw [lookF, lookK, if_pos hq]
      exact tail (f + 1) k σ (by omega) hq.2 hq.1 hd s1 s2 s3 s4
    · rw [lookF, lookK, if_neg hq]
      refine ⟨σ, ?_, FrR.rf, s3, s4, fun _ => rfl, fun z hz => by rw [s1, show e + 3 * k = z from by omega], fun q => by omega⟩
      rw [df (by omega)]
      exact toRL (f + 1) k σ (by omega) hq hd s1 s2 0 σ _ (rl_0 hb hd s1 (by omega) s2 s3 (by omega) (by omega) (Or.inr (by omega))) (rs_false f σ)
  | succ m ih =>
    intro f k σ hk hf hd s1 s2 s3 s4
    obtain ⟨f, rfl⟩ : ∃ f', f = f' + 1 + 1 := ⟨f - 2, by omega⟩
    by_cases hq : isN n d (e + 3 * k) 47 = true ∧ 0 < k
    · rw [lookF, lookK, if_pos hq, if_pos hq]
      exact tail (f + 1) k σ (by omega) hq.2 hq.1 hd s1 s2 s3 s4
    · rw [lookF, lookK, if_neg hq, if_neg hq]
      cases h59 : isN n d (e + 3 * k) 59 with
      | false =>
        rw [if_neg (by decide)]
        refine ⟨σ, ?_, FrR.rf, s3, s4, fun _ => rfl, fun z hz => by rw [s1, show e + 3 * k = z from by omega], fun q => by omega⟩
        rw [df (by omega)]
        exact toRL (f + 1) k σ (by omega) hq hd s1 s2 0 σ _ (rl_0 hb hd s1 (by omega) s2 s3 (by omega) (by omega) (Or.inl h59)) (rs_false f σ)
      | true =>
        have hr := rl_1 hb hd s1 (by omega) s2 s3 (by omega) (by omega) h59
        rw [if_pos rfl]
        by_cases q1 : kdN n d (e + 3 * k + 1) = 0
        · rw [if_pos q1] at hr ⊢
          refine ⟨sI σ 1228 (nI (e + 3 * k + 1)), ?_, FrR.sI (by decide) (by decide), by rw [gI_sI, if_neg (by decide)]; exact s3, by rw [gI_sI, if_neg (by decide)]; exact s4, fun _ => rfl, fun z hz => by rw [gI_sI, if_pos rfl, show e + 3 * k + 1 = z from by omega], fun q => by omega⟩
          rw [df (by omega)]
          exact toRL (f + 1) k σ (by omega) hq hd s1 s2 0 _ _ hr (rs_false f _)
        · rw [if_neg q1] at hr ⊢
          obtain ⟨V, e1, v1, v2, v3, v4, v5, v6, v7, v8⟩ := kb_run (n := n) (b := b) (d := d) (s2 := sI σ 1228 (nI (e + 3 * k + 1))) (p := e + 3 * k) (k := k) (kv := kdN n d (e + 3 * k + 1) - 1) hb hd (by rw [gI_sI, if_pos rfl]) (by omega) (by rw [gI_sI, if_neg (by decide)]; exact s2) (by omega)
          rw [e1] at hr
          have hFr : FrR σ V := ⟨fun z hz => by rw [v1 z (by omega) (by omega), gI_sI, if_neg (by omega)], fun z => (v4 z).trans rfl, fun a ha y => (v5 a (by omega) (by omega) y).trans rfl⟩
          have hV1229 : gI V 1229 = nI W := by rw [v1 _ (by decide) (by decide), gI_sI, if_neg (by decide)]; exact s3
          have hV1230 : gI V 1230 = nI T := by rw [v1 _ (by decide) (by decide), gI_sI, if_neg (by decide)]; exact s4
          by_cases q2 : dgN n d (e + 3 * k + 2) = 0
          · rw [if_pos q2] at v2 ⊢
            rw [dt q2] at hr
            refine ⟨V, ?_, hFr, hV1229, hV1230, fun y => (v5 23 (by decide) (by decide) y).trans rfl, fun z hz => by rw [v2, show e + 3 * k + 2 + 0 = z from by omega], fun q => by omega⟩
            rw [df (by omega)]
            exact toRL (f + 1) k σ (by omega) hq hd s1 s2 _ _ _ hr (rs_false f _)
          · rw [if_neg q2] at v2 ⊢
            rw [df q2] at hr
            obtain ⟨σ', e2, w1, w2, w3, w4, w5, w6⟩ := ih (f + 1) (k + 1) V (by omega) (by omega) (hFr.d hd) (by rw [v2, show e + 3 * k + 2 + 1 = e + 3 * (k + 1) from by omega]) v3 hV1229 hV1230
            refine ⟨σ', toRL (f + 1) k σ (by omega) hq hd s1 s2 _ _ _ hr e2, hFr.tr w1, w2, w3, fun y => (w4 y).trans ((v5 23 (by decide) (by decide) y).trans rfl), w5, fun q => ?_⟩
            obtain ⟨x1, x2, x3, x4, x5⟩ := w6 q
            refine ⟨x1, x2, x3, fun j hj => ?_, fun j h1 h2 => ?_⟩
            · obtain ⟨y1, y2⟩ := x4 j (by omega)
              obtain ⟨y3, y4⟩ := v6 j (by omega)
              exact ⟨y1.trans (y3.trans rfl), y2.trans (y4.trans rfl)⟩
            · by_cases hjk : j = k
              · obtain ⟨y1, y2⟩ := x4 j (by omega)
                rw [y1, y2, hjk]
                exact ⟨v7, v8 q2⟩
              · exact x5 j (by omega) h2
def floorB (n : Nat) (d : Nat → Int32) : Nat → Nat → Nat
  | 0, _ => 0
  | m + 1, x => if dgN n d x = 0 then x + 1 else floorB n d m (x + 1)
theorem floor_B (n : Nat) (d : Nat → Int32) (r : Nat) : ∀ m x, floorF n d r m x = if floorB n d m x = 0 then r else floorB n d m x := by
  intro m
  induction m with
  | zero => intro x; rfl
  | succ m ih =>
    intro x
    rw [floorF, floorB]
    by_cases q : dgN n d x = 0
    · rw [if_pos q, if_pos q, if_neg (by omega)]
    · rw [if_neg q, if_neg q, ih]
theorem rf_false {n b : Nat} (f : Nat) (x : Int32) (σ : PS) : L_X5_readsFloor (f + 1) (nI b) (nI n) (bI false) x σ = some (bI false, σ) := by
  rw [L_X5_readsFloor]
  exact cnd_t (ef rfl) (cnd_t (okb_bI false) rfl)
theorem fl_run {n b : Nat} {d : Nat → Int32} {W T : Nat} (hb : b + n ≤ 240) (h36 : W * T ≤ 36) : ∀ (m f i : Nat) (σ : PS), i + m = W * T → m + 1 < f → (∀ y, y < n → gA σ 32 (b + y) = d y) → gI σ 1228 = nI (3 + i) → gI σ 1229 = nI W → gI σ 1230 = nI T → ∃ σ', L_X5_readsFloor f (nI b) (nI n) (bI true) (nI i) σ = some (bI (decide (floorB n d m (3 + i) = 0)), σ') ∧ (∀ z, z ≠ 1228 → gI σ' z = gI σ z) ∧ (∀ z, gL σ' z = gL σ z) ∧ (∀ a, a ≠ 23 → ∀ y, gA σ' a y = gA σ a y) ∧ gI σ' 1228 = nI (if floorB n d m (3 + i) = 0 then 3 + W * T else floorB n d m (3 + i) - 1) ∧ (∀ y, y < i → gA σ' 23 y = gA σ 23 y) ∧ (floorB n d m (3 + i) = 0 → ∀ y, i ≤ y → y < W * T → gA σ' 23 y = nI (dgN n d (3 + y) - 1)) := by
  intro m
  induction m with
  | zero =>
    intro f i σ hi hf hd s1 s2 s3
    obtain ⟨f, rfl⟩ : ∃ f', f = f' + 1 := ⟨f - 1, by omega⟩
    refine ⟨σ, ?_, fun _ _ => rfl, fun _ => rfl, fun _ _ _ => rfl, by rw [s1, show floorB n d 0 (3 + i) = 0 from rfl, if_pos rfl, show 3 + i = 3 + W * T from by omega], fun _ _ => rfl, fun _ y h1 h2 => by omega⟩
    rw [L_X5_readsFloor]
    refine cnd_f (et rfl) (cnd_t ?_ (cnd_t (okb_bI true) rfl))
    rw [s2, s3, pk_mul, cGe_nI (by omega) (by omega)]; exact dt (by omega)
  | succ m ih =>
    intro f i σ hi hf hd s1 s2 s3
    obtain ⟨f, rfl⟩ : ∃ f', f = f' + 1 + 1 := ⟨f - 2, by omega⟩
    have dg : dgN n d (3 + i) ≤ 10 := dgv_le _
    have hfb : figB n d (3 + i) 0 9 = !decide (dgN n d (3 + i) = 0) := by
      unfold figB
      by_cases q : dgN n d (3 + i) = 0
      · rw [dt q, df (by omega)]; rfl
      · rw [df q, dt (by omega)]; rfl
    have f1 := e_fig (n := n) (b := b) (d := d) (lo := 0) (hi := 9) (p2 := 0) hb hd s1 (by omega) (by decide) (by decide) (by decide)
    rw [hfb] at f1
    have v36 : vin (nI i) 36 = true := vin_of_lt (by omega) (by decide)
    rw [show floorB n d (m + 1) (3 + i) = if dgN n d (3 + i) = 0 then 3 + i + 1 else floorB n d m (3 + i + 1) from rfl]
    by_cases q : dgN n d (3 + i) = 0
    · rw [dt q] at f1
      rw [if_pos q]
      refine ⟨sA (sI σ 1228 (nI (3 + i + 0))) 23 i (-9), ?_, fun z hz => by rw [gI_sA, gI_sI, if_neg hz], fun _ => rfl, fun a ha y => by rw [gA_sA, if_neg ha]; rfl, by rw [gI_sA, gI_sI, if_pos rfl, if_neg (by omega)]; rfl, fun y hy => by rw [gA_sA, if_pos rfl, if_neg (by omega)]; rfl, fun h => by omega⟩
      rw [L_X5_readsFloor, df (by omega)]
      refine cnd_f (et rfl) (cnd_f ?_ (bd f1 (cnd_t v36 (cnd_t v36 ?_))))
      · rw [s2, s3, pk_mul, cGe_nI (by omega) (by omega)]; exact df (by omega)
      · dsimp only
        rw [tn (by omega), gA_sA, if_pos rfl, if_pos rfl]
        exact cnd_t (show cLt (-9) 0 = true from by decide) (rf_false f _ _)
    · rw [df q] at f1
      rw [if_neg q]
      obtain ⟨σ', e1, a1, a2, a3, a4, a5, a6⟩ := ih (f + 1) (i + 1) (sA (sI σ 1228 (nI (3 + i + 1))) 23 i (nI (dgN n d (3 + i) - 1))) (by omega) (by omega) (fun y hy => by rw [gA_sA, if_neg (by decide)]; exact hd y hy) (by rw [gI_sA, gI_sI, if_pos rfl]; rfl) (by rw [gI_sA, gI_sI, if_neg (by decide)]; exact s2) (by rw [gI_sA, gI_sI, if_neg (by decide)]; exact s3)
      refine ⟨σ', ?_, fun z hz => by rw [a1 z hz, gI_sA, gI_sI, if_neg hz], fun z => (a2 z).trans rfl, fun a ha y => by rw [a3 a ha y, gA_sA, if_neg ha]; rfl, a4, fun y hy => by rw [a5 y (by omega), gA_sA, if_pos rfl, if_neg (by omega)]; rfl, fun h y h1 h2 => ?_⟩
      · rw [show 3 + i + 1 = 3 + (i + 1) from by omega, ← e1, L_X5_readsFloor]
        refine cnd_f (et rfl) (cnd_f ?_ (bd f1 (cnd_t v36 (cnd_t v36 ?_))))
        · rw [s2, s3, pk_mul, cGe_nI (by omega) (by omega)]; exact df (by omega)
        · dsimp only
          rw [tn (by omega), gA_sA, if_pos rfl, if_pos rfl, nI_1]
          exact cnd_f (show cLt (nI (dgN n d (3 + i) - 1)) 0 = false from cLt_pos (by omega)) rfl
      · by_cases h3 : y = i
        · rw [h3, a5 i (by omega), gA_sA, if_pos rfl, if_pos rfl]
        · exact a6 h y (by omega) h2
