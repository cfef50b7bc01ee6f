/-! SHEETS: one of them anew -/
def setSh (A : AS) (k z l : Nat) (x : Nat → Int32) : AS := (A.1, va_up (va_up A.2.1 6 (va_up (A.2.1 6) k z)) 7 (va_up (A.2.1 7) k l), A.2.2.1, va_up A.2.2.2 k x)
theorem WF_sh {A : AS} {k z l : Nat} {x : Nat → Int32} (h : WF A) (hz : z ≤ 61) (hl : l ≤ 2) (hx : ∀ i, i + 1 < z → cutN l (x i) = x i) : WF (setSh A k z l x) := by
  refine ⟨h.1, ⟨h.2.1.1, h.2.1.2.1, h.2.1.2.2.1, fun q hq i hi => ?_⟩, h.2.2.1, fun q hq => ⟨?_, ?_⟩⟩
  · have hi : i + 1 < (if q = k then z else aZ A q) := hi
    show cutN (if q = k then l else aL A q) ((if q = k then x else A.2.2.2 q) i) = (if q = k then x else A.2.2.2 q) i
    by_cases e : q = k
    · rw [if_pos e] at hi; rw [if_pos e, if_pos e]; exact hx i hi
    · rw [if_neg e] at hi; rw [if_neg e, if_neg e]; exact h.2.1.2.2.2 q hq i hi
  · show (if q = k then z else aZ A q) ≤ 61
    split
    · exact hz
    · exact (h.2.2.2 q hq).1
  · show (if q = k then l else aL A q) ≤ 2
    split
    · exact hl
    · exact (h.2.2.2 q hq).2
theorem RC_sh {A : AS} {σ σ' : PS} {k z l : Nat} {x : Nat → Int32} (hk : k < 4) (h : RC A σ) (hI : ∀ c, c < 1216 → c ≠ 64 * (2 * k + 2) + 1 → c ≠ 64 * (2 * k + 2) + 2 → gI σ' c = gI σ c) (hL : ∀ c, c < 1216 → gL σ' c = gL σ c) (hA : ∀ a, a < 18 → a ≠ 2 * k + 3 → ∀ i, gA σ' a i = gA σ a i)
    (e1 : gI σ' (64 * (2 * k + 2) + 1) = nI z - 1) (e2 : gI σ' (64 * (2 * k + 2) + 2) = nI l) (e3 : ∀ i, i + 1 < z → gA σ' (2 * k + 3) i = x i) : RC (setSh A k z l x) σ' := by
  obtain ⟨⟨a1, a2, a3, a4, a5, a6, a7⟩, ⟨h2, h3⟩, ⟨h4, h5⟩, h6, h7, h8⟩ := h
  refine ⟨⟨?_, ?_, ?_, ?_, ?_, ?_, ?_⟩, ⟨fun i hi => ?_, fun q hq => ?_⟩, ⟨?_, fun i hi => ?_⟩, ?_, ?_, fun q hq => ?_⟩
  · rw [hI _ (by omega) (by omega) (by omega)]; exact a1
  · rw [hI _ (by omega) (by omega) (by omega)]; exact a2
  · rw [hI _ (by omega) (by omega) (by omega)]; exact a3
  · rw [hI _ (by omega) (by omega) (by omega)]; exact a4
  · rw [hI _ (by omega) (by omega) (by omega)]; exact a5
  · rw [hL _ (by omega)]; exact a6
  · rw [hI _ (by omega) (by omega) (by omega)]; exact a7
  · rw [hA _ (by omega) (by omega)]; exact h2 i hi
  · rw [hA _ (by omega) (by omega), hA _ (by omega) (by omega)]; exact h3 q hq
  · rw [hI _ (by omega) (by omega) (by omega)]; exact h4
  · rw [hA _ (by omega) (by omega), hA _ (by omega) (by omega), hA _ (by omega) (by omega)]; exact h5 i hi
  · rw [hI _ (by omega) (by omega) (by omega)]; exact h6
  · rw [hI _ (by omega) (by omega) (by omega)]; exact h7
  · by_cases e : q = k
    · subst e
      refine ⟨?_, ?_, fun i hi => ?_⟩
      · rw [e1]; show _ = nI (if q = q then z else aZ A q) - 1; rw [if_pos rfl]
      · rw [e2]; show _ = nI (if q = q then l else aL A q); rw [if_pos rfl]
      · have hi : i + 1 < (if q = q then z else aZ A q) := hi
        rw [if_pos rfl] at hi
        rw [e3 i hi]; show _ = (if q = q then x else A.2.2.2 q) i; rw [if_pos rfl]
    · refine ⟨?_, ?_, fun i hi => ?_⟩
      · rw [hI _ (by omega) (by omega) (by omega)]; show _ = nI (if q = k then z else aZ A q) - 1; rw [if_neg e]; exact (h8 q hq).1
      · rw [hI _ (by omega) (by omega) (by omega)]; show _ = nI (if q = k then l else aL A q); rw [if_neg e]; exact (h8 q hq).2.1
      · have hi : i + 1 < (if q = k then z else aZ A q) := hi
        rw [if_neg e] at hi
        rw [hA _ (by omega) (by omega)]; show _ = (if q = k then x else A.2.2.2 q) i; rw [if_neg e]; exact (h8 q hq).2.2 i hi
theorem RM_sh {A : AS} {σ σ' : PS} {k z l : Nat} {x : Nat → Int32} (hk : k < 4) (hW : WF A) (h : RM A σ) (hI : ∀ c, 1216 ≤ c → gI σ' c = gI σ c) (hL : ∀ c, 1216 ≤ c → gL σ' c = gL σ c) (hA : ∀ a, 20 ≤ a → a < 30 → ∀ i, gA σ' a i = gA σ a i)
    (h30 : ∀ q, q ≠ k → gA σ' 30 q = gA σ 30 q) (h31 : ∀ q, q ≠ k → gA σ' 31 q = gA σ 31 q) (h32 : ∀ c, (c < 60 * k ∨ 60 * k + 60 ≤ c) → gA σ' 32 c = gA σ 32 c)
    (e1 : gA σ' 30 k = nI z - 1) (e2 : gA σ' 31 k = nI l) (e3 : ∀ i, i + 1 < z → gA σ' 32 (60 * k + i) = x i) : RM (setSh A k z l x) σ' := by
  obtain ⟨⟨a1, a2, a3, a4, a5, a6, a7, a8⟩, ⟨h2, h3⟩, ⟨h4, h5⟩, h6, h7, h8⟩ := h
  refine ⟨⟨?_, ?_, ?_, ?_, ?_, ?_, ?_, ?_⟩, ⟨fun i hi => ?_, fun q hq => ?_⟩, ⟨?_, fun i hi => ?_⟩, ?_, ?_, fun q hq => ?_⟩
  · rw [hI _ (by omega)]; exact a1
  · rw [hI _ (by omega)]; exact a2
  · rw [hI _ (by omega)]; exact a3
  · rw [hI _ (by omega)]; exact a4
  · rw [hI _ (by omega)]; exact a5
  · rw [hI _ (by omega)]; exact a6
  · rw [hI _ (by omega)]; exact a7
  · rw [hL _ (by omega)]; exact a8
  · rw [hA _ (by omega) (by omega)]; exact h2 i hi
  · rw [hA _ (by omega) (by omega), hA _ (by omega) (by omega)]; exact h3 q hq
  · rw [hI _ (by omega)]; exact h4
  · rw [hA _ (by omega) (by omega), hA _ (by omega) (by omega), hA _ (by omega) (by omega)]; exact h5 i hi
  · rw [hI _ (by omega)]; exact h6
  · rw [hI _ (by omega)]; exact h7
  · by_cases e : q = k
    · subst e
      refine ⟨?_, ?_, fun i hi => ?_⟩
      · rw [e1]; show _ = nI (if q = q then z else aZ A q) - 1; rw [if_pos rfl]
      · rw [e2]; show _ = nI (if q = q then l else aL A q); rw [if_pos rfl]
      · have hi : i + 1 < (if q = q then z else aZ A q) := hi
        rw [if_pos rfl] at hi
        rw [e3 i hi]; show _ = (if q = q then x else A.2.2.2 q) i; rw [if_pos rfl]
    · refine ⟨?_, ?_, fun i hi => ?_⟩
      · rw [h30 q e]; show _ = nI (if q = k then z else aZ A q) - 1; rw [if_neg e]; exact (h8 q hq).1
      · rw [h31 q e]; show _ = nI (if q = k then l else aL A q); rw [if_neg e]; exact (h8 q hq).2.1
      · have hi : i + 1 < (if q = k then z else aZ A q) := hi
        rw [if_neg e] at hi
        have hz := (hW.2.2.2 q hq).1
        rw [h32 _ (by omega)]; show _ = (if q = k then x else A.2.2.2 q) i; rw [if_neg e]; exact (h8 q hq).2.2 i hi
theorem isSh_k {k : Nat} (h : k < 4) : isSh (2 * k + 2) = true := by
  match k, h with
  | 0, _ => rfl
  | 1, _ => rfl
  | 2, _ => rfl
  | 3, _ => rfl
theorem e_sheetOf_n {p : Int32} (σ : PS) (h : vin p 4 = false) : F_X4_sheetOf p σ = some (none, σ) := by
  unfold F_X4_sheetOf
  rcases p_cases p with hp | ⟨j, hj, rfl⟩
  · rw [cLt_neg hp]; rfl
  · rw [vin_pos hj] at h
    have := of_decide_eq_false h
    rw [cLt_pos hj, cond_false, show (4 : Int32) = nI 4 from rfl, cGe_nI hj (by decide), decide_eq_true (by omega)]; rfl
theorem e_sheetOf {k : Nat} (σ : PS) (h : k < 4) : F_X4_sheetOf (nI k) σ = some (some (2 * k + 2), σ) := by
  unfold F_X4_sheetOf
  rw [cLt_pos (by omega), cond_false, show (4 : Int32) = nI 4 from rfl, cGe_nI (by omega) (by decide), decide_eq_false (by omega), cond_false, vin_of_lt h (by decide), tn (by omega)]; rfl
theorem e_noSheet (p : Int32) (σ : PS) : F_X5_noSheet p σ = some (bI (!vin p 4), σ) := by
  unfold F_X5_noSheet
  rw [show (0 : Int64) = lN 0 from rfl, show (3 : Int64) = lN 3 from rfl, e_inR p 0 3 (by decide) (by decide), Option.bind_some]
  dsimp only
  rw [cNe_bI]
  have e : inR p 0 3 = vin p 4 := by
    rcases p_cases p with hp | ⟨j, hj, rfl⟩
    · rw [inR_neg hp, vin_neg hp]
    · rw [inR_pos hj (by decide) (by decide), vin_pos hj, decide_eq_true (Nat.zero_le j), Bool.true_and, decide_eq_decide]
      omega
  rw [e]
  cases vin p 4 <;> rfl
theorem nI_m1 (n : Nat) : nI (n + 1) - 1 = nI n := nI_pred n
theorem e_hasNothing {A : AS} {σ : PS} (hW : WF A) (hC : RC A σ) {k : Nat} (hk : k < 4) : F_X3_hasNothing (2 * k + 2) σ = some (bI (decide (aZ A k = 0)), σ) := by
  unfold F_X3_hasNothing
  rw [(hC.2.2.2.2.2 k hk).1]
  have hz := (hW.2.2.2 k hk).1
  cases h : aZ A k with
  | zero => rfl
  | succ n =>
    have hne : cNe (nI n) (-1) = true := by
      unfold cNe
      rw [decide_eq_false]; · rfl
      intro q
      have := congrArg Int32.toInt q
      rw [nI_toInt (by omega)] at this
      have h2 : (-1 : Int32).toInt = -1 := by decide
      omega
    rw [nI_m1, hne, cond_true, decide_eq_false (by omega)]; rfl
