/-! cells that a call takes of a SHEET, on both sides -/
theorem RC_x {A : AS} {σ σ' : PS} (h1 : ∀ z, gI σ' z = gI σ z) (h2 : ∀ z, gL σ' z = gL σ z) (h3 : ∀ a, a ≠ 18 → ∀ i, gA σ' a i = gA σ a i) (hC : RC A σ) : RC A σ' := by
  obtain ⟨⟨a1, a2, a3, a4, a5, a6, a7⟩, ⟨b1, b2⟩, ⟨c1, c2⟩, d1, d2, d3⟩ := hC
  refine ⟨⟨?_, ?_, ?_, ?_, ?_, ?_, ?_⟩, ⟨fun i hi => ?_, fun k hk => ?_⟩, ⟨?_, fun i hi => ?_⟩, ?_, ?_, fun k hk => ?_⟩
  · rw [h1]; exact a1
  · rw [h1]; exact a2
  · rw [h1]; exact a3
  · rw [h1]; exact a4
  · rw [h1]; exact a5
  · rw [h2]; exact a6
  · rw [h1]; exact a7
  · rw [h3 _ (by omega)]; exact b1 i hi
  · rw [h3 _ (by omega), h3 _ (by omega)]; exact b2 k hk
  · rw [h1]; exact c1
  · rw [h3 _ (by omega), h3 _ (by omega), h3 _ (by omega)]; exact c2 i hi
  · rw [h1]; exact d1
  · rw [h1]; exact d2
  · obtain ⟨e1, e2, e3⟩ := d3 k hk
    exact ⟨by rw [h1]; exact e1, by rw [h1]; exact e2, fun i hi => by rw [h3 _ (by omega)]; exact e3 i hi⟩
theorem rd_run (k n i : Nat) (hk : k < 4) (hn : i + n ≤ 60) : ∀ (m f j : Nat) (σ : PS), j + m = n → m < f → ∃ σ', L_X4_readInto 18 60 (2 * k + 2) f (nI i) (nI n) (nI j) σ = some ((), σ') ∧ (∀ z, gI σ' z = gI σ z) ∧ (∀ z, gL σ' z = gL σ z) ∧ (∀ c, c ≠ 18 → ∀ x, gA σ' c x = gA σ c x) ∧ (∀ x, x < j → gA σ' 18 x = gA σ 18 x) ∧ ∀ x, j ≤ x → x < n → gA σ' 18 x = gA σ (2 * k + 3) (i + x) := by
  intro m
  induction m with
  | zero =>
    intro f j σ hj hf
    obtain ⟨f, rfl⟩ : ∃ f', f = f' + 1 := ⟨f - 1, by omega⟩
    refine ⟨σ, ?_, fun _ => rfl, fun _ => rfl, fun _ _ _ => rfl, fun _ _ => rfl, fun i h1 h2 => by omega⟩
    rw [L_X4_readInto]
    exact cnd_t (by rw [cGe_nI (by omega) (by omega)]; exact dt (by omega)) rfl
  | succ m ih =>
    intro f j σ hj hf
    obtain ⟨f, rfl⟩ : ∃ f', f = f' + 1 := ⟨f - 1, by omega⟩
    obtain ⟨σ', e, g1, g2, g3, g4, g5⟩ := ih f (j + 1) (sA σ 18 j (gA σ (2 * k + 3) (i + j))) (by omega) (by omega)
    refine ⟨σ', ?_, g1, g2, fun c hc x => ?_, fun x hx => ?_, fun x h1 h2 => ?_⟩
    · rw [L_X4_readInto]
      refine cnd_f (by rw [cGe_nI (by omega) (by omega)]; exact df (by omega)) ?_
      unfold F_X3_read
      rw [nI_add]
      refine bd (bd (e_numberAt _ σ (by decide)) rfl) (bd (e_setNumber _ _ σ (by decide)) ?_)
      dsimp only
      rw [vin_of_lt (by omega) (by decide), vin_of_lt (by omega) (by decide), tn (by omega), tn (by omega), nI_1]
      exact e
    · rw [g3 c hc, gA_sA, if_neg hc]
    · rw [g4 x (by omega), gA_sA, if_pos rfl, if_neg (by omega)]
    · by_cases h3 : x = j
      · rw [g4 x (by omega), gA_sA, if_pos rfl, if_pos h3, h3]
      · rw [g5 x (by omega) h2, gA_sA, if_neg (by omega)]
theorem ft_0 {A : AS} {k l : Nat} {p q : Int32} (hz : aZ A k ≤ 61) (h : ftN A k l p q = 0) : ∃ i n, p = nI i ∧ q = nI n ∧ i + n + 1 ≤ aZ A k ∧ l = aL A k := by
  unfold ftN at h
  split at h
  · exact absurd h (by decide)
  · split at h
    · rename_i h1 h2
      cases hq : cGe q 0 with
      | false => rw [hq, cond_false] at h; exact absurd h (by decide)
      | true =>
        rw [hq, cond_true] at h
        cases hf : fitsN p q (aZ A k - 1) with
        | false => rw [hf, cond_false] at h; exact absurd h (by decide)
        | true =>
          unfold fitsN at hf
          obtain ⟨f1, f2, f3⟩ := of_decide_eq_true hf
          obtain ⟨i, hi, rfl⟩ : ∃ j, j < 2147483648 ∧ p = nI j := by
            rcases p_cases p with hp | hp
            · have := Int32.lt_iff_toInt_lt.mp hp
              rw [show (0 : Int32).toInt = 0 from by decide] at this
              omega
            · exact hp
          obtain ⟨n, hn, rfl⟩ : ∃ j, j < 2147483648 ∧ q = nI j := by
            rcases p_cases q with hp | hp
            · have := Int32.lt_iff_toInt_lt.mp hp
              rw [show (0 : Int32).toInt = 0 from by decide] at this
              omega
            · exact hp
          rw [nI_toInt hi, nI_toInt hn] at f3
          exact ⟨i, n, rfl, rfl, by omega, h2⟩
    · exact absurd h (by decide)
theorem ft_le (A : AS) (k l : Nat) (p q : Int32) : ftN A k l p q ≤ 4 := by
  unfold ftN
  split
  · decide
  · split
    · cases cGe q 0 <;> cases fitsN p q (aZ A k - 1) <;> decide
    · decide
theorem e_take0 {A : AS} {σ : PS} (hW : WF A) (hC : RC A σ) {k l : Nat} (hk : k < 4) (hl : l ≤ 2) {p q : Int32} (h : ftN A k l p q ≠ 0) : F_X4_take (2 * k + 2) (nI l) p q σ = some (nI (ftN A k l p q), σ) := by
  unfold F_X4_take
  have := ft_le A k l p q
  refine bd (e_faultIn hW hC hk hl p q) (cnd_t ?_ rfl)
  refine (cNe_nI (b := 0) (by omega) (by decide)).trans ?_
  rw [df h]; rfl
theorem e_take1 {A : AS} {σ : PS} (hW : WF A) (hC : RC A σ) {k i n : Nat} (hk : k < 4) (hz : i + n + 1 ≤ aZ A k) (h : ftN A k (aL A k) (nI i) (nI n) = 0) : ∃ σ', F_X4_take (2 * k + 2) (nI (aL A k)) (nI i) (nI n) σ = some (nI 0, σ') ∧ RC A σ' ∧ eqM σ σ' ∧ ∀ x, x < n → gA σ' 18 x = aX A k (i + x) := by
  have hZ := (hW.2.2.2 k hk)
  obtain ⟨σ', e, g1, g2, g3, g4, g5⟩ := rd_run k n i hk (by omega) n fuelN 0 σ (by omega) (by unfold fuelN; omega)
  refine ⟨σ', ?_, RC_x g1 g2 g3 hC, ⟨fun z _ => g1 z, fun z _ => g2 z, fun a ha i => g3 a (by omega) i⟩, fun x hx => ?_⟩
  · unfold F_X4_take
    refine bd (e_faultIn hW hC hk hZ.2 _ _) ?_
    rw [h]
    refine cnd_f (show cNe (nI 0) 0 = false from by decide) ?_
    unfold F_X4_readInto
    rw [nI_0] at e
    exact bd e rfl
  · rw [g5 x (Nat.zero_le _) hx]
    exact (hC.2.2.2.2.2 k hk).2.2 (i + x) (by omega)
theorem e_beyond (p q : Int32) {z : Nat} (hz : z < 2147483648) (σ : PS) : F_X5_isBeyond p q.toInt64 (nI z) σ = some (bI (!fitsN p q z), σ) := by
  have z0 : (0 : Int32).toInt = 0 := by decide
  have hp := Int32.toInt_lt p
  have hq := Int32.toInt_lt q
  have hp2 := Int32.le_toInt p
  have hq2 := Int32.le_toInt q
  unfold F_X5_isBeyond
  have c1 : cLt p 0 = decide (p.toInt < 0) := by unfold cLt; rw [decide_eq_decide, Int32.lt_iff_toInt_lt, z0]
  have c2 : cLt (lg_cmp q.toInt64 0) 0 = decide (q.toInt < 0) := by rw [lg_lt0, decide_eq_decide, Int64.lt_iff_toInt_lt, Int32.toInt_toInt64]; rfl
  have c3 : cLe (lg_cmp (p.toInt64 + q.toInt64) (nI z).toInt64) 0 = !decide ((z : Int) < p.toInt + q.toInt) := by
    rw [lg_le0]
    congr 1
    rw [decide_eq_decide, Int64.lt_iff_toInt_lt, Int64.toInt_add, Int32.toInt_toInt64, Int32.toInt_toInt64, Int32.toInt_toInt64, nI_toInt hz, Int.bmod_eq_of_le (by omega) (by omega)]
  rw [c1, c2, c3]
  unfold fitsN
  by_cases h1 : p.toInt < 0
  · rw [dt h1, (show decide (0 ≤ p.toInt ∧ 0 ≤ q.toInt ∧ p.toInt + q.toInt ≤ (z : Int)) = false from df (by omega))]; rfl
  · rw [df h1]
    by_cases h2 : q.toInt < 0
    · rw [dt h2, (show decide (0 ≤ p.toInt ∧ 0 ≤ q.toInt ∧ p.toInt + q.toInt ≤ (z : Int)) = false from df (by omega))]; rfl
    · rw [df h2]
      by_cases h3 : (z : Int) < p.toInt + q.toInt
      · rw [dt h3, (show decide (0 ≤ p.toInt ∧ 0 ≤ q.toInt ∧ p.toInt + q.toInt ≤ (z : Int)) = false from df (by omega))]; rfl
      · rw [df h3, (show decide (0 ≤ p.toInt ∧ 0 ≤ q.toInt ∧ p.toInt + q.toInt ≤ (z : Int)) = true from dt (by omega))]; rfl
theorem lg_ge0 (q : Int32) : cGe (lg_cmp q.toInt64 0) 0 = cGe q 0 := by
  have h := lg_lt0 q.toInt64 0
  have h2 : decide (q.toInt64 < 0) = decide (q < 0) := by
    rw [decide_eq_decide, Int64.lt_iff_toInt_lt, Int32.lt_iff_toInt_lt, Int32.toInt_toInt64]; rfl
  rw [h2] at h
  have n1 : ∀ x : Int32, cGe x 0 = !decide (x < 0) := fun x => by
    unfold cGe
    by_cases hx : x < 0
    · rw [dt hx, df (by rw [Int32.le_iff_toInt_le]; rw [Int32.lt_iff_toInt_lt] at hx; omega)]; rfl
    · rw [df hx, dt (by rw [Int32.le_iff_toInt_le]; rw [Int32.lt_iff_toInt_lt] at hx; omega)]; rfl
  rw [n1, n1]
  unfold cLt at h
  rw [h]
theorem e_failedN (f : Nat) (σ : PS) : F_X5_failed (nI f) σ = some (-10 - nI f, sI σ 1216 (nI f)) := rfl
theorem e_barred {A : AS} {σ : PS} (hW : WF A) (hM : RM A σ) {k l : Nat} (hk : k < 4) (hl : l ≤ 2) (p q : Int32) : F_X5_cellsBarred (nI k) (nI l) p q.toInt64 σ = some (if ftN A k l p q = 0 then 0 else -10 - nI (ftN A k l p q), if ftN A k l p q = 0 then σ else sI σ 1216 (nI (ftN A k l p q))) := by
  have hz := hW.2.2.2 k hk
  have hv : vin (nI k) 4 = true := vin_of_lt hk (by decide)
  obtain ⟨m1, m2, m3⟩ := hM.2.2.2.2.2 k hk
  unfold F_X5_cellsBarred
  rw [hv, cond_true, tn (by omega), m1, m2, lg_ge0]
  cases hn : aZ A k with
  | zero =>
    have hf : ftN A k l p q = 1 := by unfold ftN; rw [if_pos hn]
    rw [hf]
    refine cnd_t (by decide) (cnd_t rfl (cnd_f (by decide) ?_))
    exact bd (e_failedN 1 σ) rfl
  | succ z =>
    rw [nI_m1]
    refine cnd_f (cLt_pos (by omega)) (cnd_t rfl ?_)
    rw [cEq_nI (by omega) (by omega)]
    by_cases hL : aL A k = l
    · refine cnd_t (dt hL) (cnd_t rfl (cnd_t (cGe_p (by omega)) ?_))
      have hF : ftN A k l p q = bif cGe q 0 then (bif fitsN p q z then 0 else 3) else 4 := by unfold ftN; rw [hn, if_neg (by omega), if_pos hL.symm, Nat.add_sub_cancel]
      rw [hF]
      cases hq : cGe q 0 with
      | false => exact cnd_f rfl (bd (e_failedN 4 σ) rfl)
      | true =>
        refine cnd_t rfl (cnd_t rfl (bd (e_beyond p q (by omega) σ) ?_))
        cases hf : fitsN p q z with
        | true => exact cnd_t (ef rfl) (by rw [cond_true, cond_true, if_pos rfl, if_pos rfl])
        | false => exact cnd_f (et rfl) (bd (e_failedN 3 σ) rfl)
    · have hf : ftN A k l p q = 2 := by unfold ftN; rw [if_neg (by omega), if_neg (fun e => hL e.symm)]
      rw [hf]
      exact cnd_f (df hL) (bd (e_failedN 2 σ) rfl)
theorem gefail : ∀ f, f < 5 → f ≠ 0 → cGe (-10 - nI f) 0 = false := by decide +kernel
/-- a call that takes cells of a SHEET -/
theorem pr_src {A : AS} (hW : WF A) {f g fb gb : PS → Option (Int32 × PS)} {k l : Nat} {p q : Int32} (hk : k < 4) (hl : l ≤ 2)
    (eC : ∀ σ, RC A σ → f σ = (F_X4_take (2 * k + 2) (nI l) p q (sI σ 5 (nI 0))).bind fun r => bif cEq r.1 0 then fb r.2 else (F_X4_faulted r.1 r.2).bind fun q => some (q.1, q.2))
    (eM : ∀ σ, RM A σ → g σ = (F_X5_cellsBarred (nI k) (nI l) p q.toInt64 σ).bind fun r => bif cGe r.1 0 then gb r.2 else some (r.1, r.2))
    (hgood : ∀ i n, p = nI i → q = nI n → i + n + 1 ≤ aZ A k → ∃ v A', WF A' ∧ (∀ σ, RC (setS A 8 0) σ → (∀ x, x < n → gA σ 18 x = aX A k (i + x)) → ∃ σ', fb σ = some (v, σ') ∧ RC A' σ' ∧ eqM σ σ') ∧ (∀ σ, RM A σ → ∃ σ', gb σ = some (v, σ') ∧ RM A' σ' ∧ eqC σ σ')) : ∃ v A', WF A' ∧ ansC f A v A' ∧ ansM g A v A' := by
  have hf4 := ft_le A k l p q
  by_cases hf : ftN A k l p q = 0
  · obtain ⟨i, n, rfl, rfl, hz, rfl⟩ := ft_0 (hW.2.2.2 k hk).1 hf
    obtain ⟨v, A', hW', h1, h2⟩ := hgood i n rfl rfl hz
    refine ⟨v, A', hW', ansC_mk fun σ hC => ?_, ansM_mk fun σ hM => ?_⟩
    · obtain ⟨σ1, e, c1, m1, d1⟩ := e_take1 (A := setS A 8 0) (WF_f hW (by decide)) (RC_f 0 hC) hk hz hf
      obtain ⟨σ2, e2, c2, m2⟩ := h1 σ1 c1 d1
      refine ⟨σ2, ?_, c2, ((eqM_sI (by decide)).tr m1).tr m2⟩
      rw [eC σ hC]
      exact bd e (cnd_t (show cEq (nI 0) 0 = true from by decide) e2)
    · obtain ⟨σ2, e2, c2, m2⟩ := h2 σ hM
      refine ⟨σ2, ?_, c2, m2⟩
      rw [eM σ hM]
      refine bd (e_barred hW hM hk hl _ _) ?_
      rw [hf, if_pos rfl, if_pos rfl]
      exact cnd_t (show cGe 0 0 = true from by decide) e2
  · refine ⟨-10 - nI (ftN A k l p q), setS A 8 (ftN A k l p q), WF_f hW hf4, ansC_mk fun σ hC => ⟨sI (sI σ 5 (nI 0)) 5 (nI (ftN A k l p q)), ?_, ?_, (eqM_sI (by decide)).tr (eqM_sI (by decide))⟩, ansM_mk fun σ hM => ⟨sI σ 1216 (nI (ftN A k l p q)), ?_, RM_f _ hM, eqC_sI (by decide)⟩⟩
    · rw [eC σ hC]
      refine bd (e_take0 (A := setS A 8 0) (WF_f hW (by decide)) (RC_f 0 hC) hk hl hf) (cnd_f ?_ ?_)
      · exact (cEq_nI (b := 0) (by show ftN A k l p q < _; omega) (by decide)).trans (df hf)
      · exact bd rfl rfl
    · rw [← setS_setS A 8 0 (ftN A k l p q)]
      exact RC_f _ (RC_f 0 hC)
    · rw [eM σ hM]
      refine bd (e_barred hW hM hk hl _ _) ?_
      rw [if_neg hf, if_neg hf]
      refine cnd_f ?_ rfl
      exact gefail _ (by omega) hf
/-- a call that is refused -/
theorem pr_ref {A : AS} (hW : WF A) {f g : PS → Option (Int32 × PS)} {v : Int32} (eC : ∀ σ, RC A σ → f σ = some (v, sI σ 5 (nI 0))) (eM : ∀ σ, RM A σ → g σ = some (v, sI σ 1216 (nI 0))) : ∃ v A', WF A' ∧ ansC f A v A' ∧ ansM g A v A' :=
  ⟨v, setS A 8 0, WF_f hW (by decide), ansC_mk fun σ hC => ⟨_, eC σ hC, RC_f 0 hC, eqM_sI (by decide)⟩, ansM_mk fun σ hM => ⟨_, eM σ hM, RM_f 0 hM, eqC_sI (by decide)⟩⟩
