/-! the pair of copy -/
theorem pr_flt {A : AS} (hW : WF A) {f g : PS → Option (Int32 × PS)} (n : Nat) (hn : n ≤ 4) (eC : ∀ σ, RC A σ → f σ = some (-10 - nI n, sI (sI σ 5 (nI 0)) 5 (nI n))) (eM : ∀ σ, RM A σ → g σ = some (-10 - nI n, sI σ 1216 (nI n))) : ∃ v A', WF A' ∧ ansC f A v A' ∧ ansM g A v A' := by
  refine ⟨-10 - nI n, setS A 8 n, WF_f hW hn, ansC_mk fun σ hC => ⟨_, eC σ hC, ?_, (eqM_sI (by decide)).tr (eqM_sI (by decide))⟩, ansM_mk fun σ hM => ⟨_, eM σ hM, RM_f n hM, eqC_sI (by decide)⟩⟩
  rw [← setS_setS A 8 0 n]
  exact RC_f n (RC_f 0 hC)
theorem fits_ex {p q : Int32} {z : Nat} (hz : z < 2147483648) (h : fitsN p q z = true) : ∃ i n, p = nI i ∧ q = nI n ∧ i + n ≤ z := by
  unfold fitsN at h
  obtain ⟨f1, f2, f3⟩ := of_decide_eq_true h
  obtain ⟨i, hi, rfl⟩ : ∃ j, j < 2147483648 ∧ p = nI j := by
    rcases p_cases p with hp | hp
    · have := Int32.lt_iff_toInt_lt.mp hp
      rw [show (0 : Int32).toInt = 0 from by decide] at this
      omega
    · exact hp
  obtain ⟨n, hn, rfl⟩ : ∃ j, j < 2147483648 ∧ q = nI j := by
    rcases p_cases q with hp | hp
    · have := Int32.lt_iff_toInt_lt.mp hp
      rw [show (0 : Int32).toInt = 0 from by decide] at this
      omega
    · exact hp
  rw [nI_toInt hi, nI_toInt hn] at f3
  exact ⟨i, n, rfl, rfl, by omega⟩
theorem nI_inj {a b : Nat} (ha : a < 2147483648) (hb : b < 2147483648) (h : nI a = nI b) : a = b := (nI_eq ha hb).mp h
theorem cutL {σ : PS} {r l : Nat} (hl : l ≤ 2) (hg : gI σ (64 * r + 2) = nI l) (x : Int32) : F_X3_cutToLane r x σ = some (cutN l x, σ) := by
  unfold F_X3_cutToLane
  rw [hg]
  have h3 : l = 0 ∨ l = 1 ∨ l = 2 := by omega
  rcases h3 with q | q | q <;> rw [q] <;> rfl
theorem cw_run {d : Nat → Int32} {o n j l : Nat} (ho : o < 4) (hl : l ≤ 2) (hn : j + n ≤ 60) (hd : ∀ x, x < n → cutN l (d x) = d x) : ∀ (m f x : Nat) (σ : PS), x + m = n → m < f → (∀ y, y < n → gA σ 18 y = d y) → gI σ (64 * (2 * o + 2) + 2) = nI l → ∃ σ', L_X4_copy f (nI j) (nI n) (2 * o + 2) (nI x) σ = some (nI n, σ') ∧ (∀ z, gI σ' z = gI σ z) ∧ (∀ z, gL σ' z = gL σ z) ∧ (∀ c, c ≠ 2 * o + 3 → ∀ y, gA σ' c y = gA σ c y) ∧ (∀ y, (y < j + x ∨ j + n ≤ y) → gA σ' (2 * o + 3) y = gA σ (2 * o + 3) y) ∧ ∀ y, x ≤ y → y < n → gA σ' (2 * o + 3) (j + y) = d y := by
  intro m
  induction m with
  | zero =>
    intro f x σ hx hf h18 hg
    obtain ⟨f, rfl⟩ : ∃ f', f = f' + 1 := ⟨f - 1, by omega⟩
    refine ⟨σ, ?_, fun _ => rfl, fun _ => rfl, fun _ _ _ => rfl, fun _ _ => rfl, fun y h1 h2 => by omega⟩
    rw [L_X4_copy]
    exact cnd_t (by rw [cGe_nI (by omega) (by omega)]; exact dt (by omega)) rfl
  | succ m ih =>
    intro f x σ hx hf h18 hg
    obtain ⟨f, rfl⟩ : ∃ f', f = f' + 1 := ⟨f - 1, by omega⟩
    obtain ⟨σ', e, g1, g2, g3, g4, g5⟩ := ih f (x + 1) (sA σ (2 * o + 3) (j + x) (d x)) (by omega) (by omega) (fun y hy => by rw [gA_sA, if_neg (by omega)]; exact h18 y hy) hg
    refine ⟨σ', ?_, g1, g2, fun c hc y => ?_, fun y hy => ?_, fun y h1 h2 => ?_⟩
    · rw [L_X4_copy]
      refine cnd_f (by rw [cGe_nI (by omega) (by omega)]; exact df (by omega)) (bd (e_numberAt _ σ (by decide)) ?_)
      dsimp only
      rw [vin_of_lt (by omega) (by decide), tn (by omega), cond_true, h18 x (by omega), nI_add, nI_1]
      refine bd (a := ()) (σ := sA σ (2 * o + 3) (j + x) (d x)) ?_ e
      unfold F_X3_write
      refine bd (cutL hl hg _) (bd (e_setNumber _ _ σ (by decide)) ?_)
      dsimp only
      rw [vin_of_lt (by omega) (by decide), tn (by omega), cond_true, hd x (by omega)]
    · rw [g3 c hc, gA_sA, if_neg hc]
    · rw [g4 y (by omega), gA_sA, if_pos rfl, if_neg (by omega)]
    · by_cases h3 : y = x
      · rw [g4 _ (by omega), gA_sA, if_pos rfl, if_pos (by omega), h3]
      · exact g5 y (by omega) h2
theorem mh_run {d : Nat → Int32} {k o i j n : Nat} (hk : k < 4) (hn : i + n ≤ 60) : ∀ (m f x : Nat) (σ : PS), x + m = n → m < f → (∀ y, y < n → gA σ 32 (60 * k + i + y) = d y) → (∀ y, y < x → gA σ 33 y = d y) → ∃ (f' : Nat) (σ' : PS), f ≤ f' + m + 1 ∧ L_X5_copy f 107 (nI k) (nI i) (nI o) (nI j) (nI n) (nI x) σ = L_X5_copy f' 144 0 0 (nI o) (nI j) (nI n) (nI 0) σ' ∧ (∀ z, gI σ' z = gI σ z) ∧ (∀ z, gL σ' z = gL σ z) ∧ (∀ c, c ≠ 33 → ∀ y, gA σ' c y = gA σ c y) ∧ ∀ y, y < n → gA σ' 33 y = d y := by
  have eb : 60 * nI k + nI i = nI (60 * k + i) := by rw [show (60 : Int32) = nI 60 from rfl, pk_mul, nI_add]
  intro m
  induction m with
  | zero =>
    intro f x σ hx hf h32 h33
    obtain ⟨f, rfl⟩ : ∃ f', f = f' + 1 := ⟨f - 1, by omega⟩
    refine ⟨f, σ, by omega, ?_, fun _ => rfl, fun _ => rfl, fun _ _ _ => rfl, fun y hy => h33 y (by omega)⟩
    rw [L_X5_copy]
    exact cnd_t (by decide) (cnd_t (by rw [cGe_nI (by omega) (by omega)]; exact dt (by omega)) rfl)
  | succ m ih =>
    intro f x σ hx hf h32 h33
    obtain ⟨f, rfl⟩ : ∃ f', f = f' + 1 := ⟨f - 1, by omega⟩
    obtain ⟨f', σ', e0, e, g1, g2, g3, g4⟩ := ih f (x + 1) (sA σ 33 x (d x)) (by omega) (by omega) (fun y hy => by rw [gA_sA, if_neg (by decide)]; exact h32 y hy) (fun y hy => by
      rw [gA_sA, if_pos rfl]
      by_cases q : y = x
      · rw [if_pos q, q]
      · rw [if_neg q]; exact h33 y (by omega))
    refine ⟨f', σ', by omega, ?_, g1, g2, fun c hc y => ?_, g4⟩
    · rw [L_X5_copy]
      refine cnd_t (by decide) (cnd_f (by rw [cGe_nI (by omega) (by omega)]; exact df (by omega)) ?_)
      rw [eb, nI_add, vin_of_lt (by omega) (by decide), vin_of_lt (by omega) (by decide), tn (by omega), tn (by omega), cond_true, cond_true, h32 x (by omega), nI_1]
      exact e
    · rw [g3 c hc, gA_sA, if_neg hc]
theorem mw_run {d : Nat → Int32} {o n j : Nat} (ho : o < 4) (hn : j + n ≤ 60) : ∀ (m f x : Nat) (σ : PS), x + m = n → m < f → (∀ y, y < n → gA σ 33 y = d y) → ∃ σ', L_X5_copy f 144 0 0 (nI o) (nI j) (nI n) (nI x) σ = some (nI n, sI σ' 1216 (nI 0)) ∧ (∀ z, gI σ' z = gI σ z) ∧ (∀ z, gL σ' z = gL σ z) ∧ (∀ c, c ≠ 32 → ∀ y, gA σ' c y = gA σ c y) ∧ (∀ y, (y < 60 * o + j + x ∨ 60 * o + j + n ≤ y) → gA σ' 32 y = gA σ 32 y) ∧ ∀ y, x ≤ y → y < n → gA σ' 32 (60 * o + j + y) = d y := by
  have eb : 60 * nI o + nI j = nI (60 * o + j) := by rw [show (60 : Int32) = nI 60 from rfl, pk_mul, nI_add]
  intro m
  induction m with
  | zero =>
    intro f x σ hx hf h33
    obtain ⟨f, rfl⟩ : ∃ f', f = f' + 1 := ⟨f - 1, by omega⟩
    refine ⟨σ, ?_, fun _ => rfl, fun _ => rfl, fun _ _ _ => rfl, fun _ _ => rfl, fun y h1 h2 => by omega⟩
    rw [L_X5_copy]
    exact cnd_f (by decide) (cnd_t (by decide) (cnd_t (by rw [cGe_nI (by omega) (by omega)]; exact dt (by omega)) (bd rfl rfl)))
  | succ m ih =>
    intro f x σ hx hf h33
    obtain ⟨f, rfl⟩ : ∃ f', f = f' + 1 := ⟨f - 1, by omega⟩
    obtain ⟨σ', e, g1, g2, g3, g4, g5⟩ := ih f (x + 1) (sA σ 32 (60 * o + j + x) (d x)) (by omega) (by omega) (fun y hy => by rw [gA_sA, if_neg (by decide)]; exact h33 y hy)
    refine ⟨σ', ?_, g1, g2, fun c hc y => ?_, fun y hy => ?_, fun y h1 h2 => ?_⟩
    · rw [L_X5_copy]
      refine cnd_f (by decide) (cnd_t (by decide) (cnd_f (by rw [cGe_nI (by omega) (by omega)]; exact df (by omega)) ?_))
      rw [eb, nI_add, vin_of_lt (by omega) (by decide), vin_of_lt (by omega) (by decide), tn (by omega), tn (by omega), cond_true, cond_true, h33 x (by omega), nI_1]
      exact e
    · rw [g3 c hc, gA_sA, if_neg hc]
    · rw [g4 y (by omega), gA_sA, if_pos rfl, if_neg (by omega)]
    · by_cases h3 : y = x
      · rw [g4 _ (by omega), gA_sA, if_pos rfl, if_pos (by omega), h3]
      · exact g5 y (by omega) h2
theorem e_laneC {A : AS} {σ : PS} (hC : RC A σ) {k : Nat} (hk : k < 4) : F_X3_lane (2 * k + 2) σ = some (nI (aL A k), σ) := by
  unfold F_X3_lane
  rw [(hC.2.2.2.2.2 k hk).2.1]
theorem pr_copy (σ : PS) (h : Rel σ) (p0 p1 p2 p3 p4 : Int32) : Pair (F_X4_copy p0 p1 p2 p3 p4) (F_X5_copy p0 p1 p2 p3 p4) σ := pair_of h fun A hW => by
  have h0 : WF (setS A 8 0) := WF_f hW (by decide)
  cases hv : vin p0 4 with
  | false =>
    refine pr_ref (v := -1) hW (fun σ hC => ?_) (fun σ hM => ?_)
    · unfold F_X4_copy
      refine bd (e_sheetOf_n _ hv) ?_
      cases hv2 : vin p2 4 with
      | false => exact bd (e_sheetOf_n _ hv2) rfl
      | true =>
        obtain ⟨o, ho, rfl⟩ := vin_ex hv2 (by decide)
        exact bd (e_sheetOf _ ho) (cnd_t (isSh_k ho) rfl)
    · unfold F_X5_copy
      exact bd (e_noSheet p0 σ) (cnd_t (nt (by rw [hv]; rfl)) (bd rfl rfl))
  | true =>
  obtain ⟨k, hk, rfl⟩ := vin_ex hv (by decide)
  have hz := hW.2.2.2 k hk
  have en : (!vin (nI k) 4) = false := by rw [hv]; rfl
  cases hv2 : vin p2 4 with
  | false =>
    refine pr_ref (v := -1) hW (fun σ hC => ?_) (fun σ hM => ?_)
    · unfold F_X4_copy
      exact bd (e_sheetOf _ hk) (cnd_t (isSh_k hk) (bd (e_sheetOf_n _ hv2) rfl))
    · unfold F_X5_copy
      exact bd (e_noSheet _ σ) (cnd_f (nf en) (bd (e_noSheet p2 σ) (cnd_f (et (by rw [hv2]; rfl)) (bd rfl rfl))))
  | true =>
  obtain ⟨o, ho, rfl⟩ := vin_ex hv2 (by decide)
  have hzo := hW.2.2.2 o ho
  have eo : (!vin (nI o) 4) = false := by rw [hv2]; rfl
  have m30 : ∀ σ, RM A σ → gA σ 30 (nI k).toNatClampNeg = nI (aZ A k) - 1 ∧ gA σ 30 (nI o).toNatClampNeg = nI (aZ A o) - 1 ∧ gA σ 31 (nI k).toNatClampNeg = nI (aL A k) ∧ gA σ 31 (nI o).toNatClampNeg = nI (aL A o) := fun σ hM => by
    rw [tn (by omega), tn (by omega)]
    exact ⟨(hM.2.2.2.2.2 k hk).1, (hM.2.2.2.2.2 o ho).1, (hM.2.2.2.2.2 k hk).2.1, (hM.2.2.2.2.2 o ho).2.1⟩
  cases hzk : aZ A k with
  | zero =>
    refine pr_flt hW 1 (by decide) (fun σ hC => ?_) (fun σ hM => ?_)
    · unfold F_X4_copy
      refine bd (e_sheetOf _ hk) (cnd_t (isSh_k hk) (bd (e_sheetOf _ ho) (cnd_t (isSh_k ho) (bd (e_hasNothing h0 (RC_f 0 hC) hk) (cnd_t (nt (dt ?_)) (bd rfl rfl))))))
      exact hzk
    · obtain ⟨m1, m2, m3, m4⟩ := m30 σ hM
      unfold F_X5_copy
      refine bd (e_noSheet _ σ) (cnd_f (nf en) (bd (e_noSheet _ σ) (cnd_t (ef eo) (cnd_t hv (cnd_t ?_ (bd rfl rfl))))))
      dsimp only
      rw [m1, hzk]; decide
  | succ zk =>
  have ck : ∀ z, z ≤ 61 → cLt (nI (z + 1) - 1) 0 = false ∧ cGe (nI (z + 1) - 1) 0 = true := fun z hz => by rw [nI_m1]; exact ⟨cLt_pos (by omega), cGe_p (by omega)⟩
  cases hzz : aZ A o with
  | zero =>
    refine pr_flt hW 1 (by decide) (fun σ hC => ?_) (fun σ hM => ?_)
    · unfold F_X4_copy
      refine bd (e_sheetOf _ hk) (cnd_t (isSh_k hk) (bd (e_sheetOf _ ho) (cnd_t (isSh_k ho) (bd (e_hasNothing h0 (RC_f 0 hC) hk) (cnd_f (nf (df ?_)) (bd (e_hasNothing h0 (RC_f 0 hC) ho) (cnd_f (et (dt ?_)) (bd rfl rfl))))))))
      · show ¬ aZ A k = 0; omega
      · exact hzz
    · obtain ⟨m1, m2, m3, m4⟩ := m30 σ hM
      unfold F_X5_copy
      refine bd (e_noSheet _ σ) (cnd_f (nf en) (bd (e_noSheet _ σ) (cnd_t (ef eo) (cnd_t hv (cnd_f ?_ (cnd_t hv2 (cnd_f ?_ (bd rfl rfl))))))))
      · dsimp only
        rw [m1, hzk]; exact (ck zk (by omega)).1
      · dsimp only
        rw [m2, hzz]; decide
  | succ zo =>
  -- the class and the model as far as the lanes
  have eC : ∀ σ, RC A σ → F_X4_copy (nI k) p1 (nI o) p3 p4 σ = bif decide (aL A k = aL A o) then (bif fitsN p1 p4 zk then (bif fitsN p3 p4 zo then (F_X4_readInto 18 60 (2 * k + 2) p1 p4 (sI σ 5 (nI 0))).bind fun q14 => L_X4_copy fuelN p3 p4 (2 * o + 2) (0) q14.2 else some (-10 - nI 3, sI (sI σ 5 (nI 0)) 5 (nI 3))) else some (-10 - nI 3, sI (sI σ 5 (nI 0)) 5 (nI 3))) else some (-10 - nI 2, sI (sI σ 5 (nI 0)) 5 (nI 2)) := by
    intro σ hC
    have hC0 := RC_f 0 hC
    unfold F_X4_copy
    refine bd (e_sheetOf _ hk) (cnd_t (isSh_k hk) (bd (e_sheetOf _ ho) (cnd_t (isSh_k ho) (bd (e_hasNothing h0 hC0 hk) (cnd_f (nf (df ?_)) (bd (e_hasNothing h0 hC0 ho) (cnd_t (ef (df ?_)) ?_)))))))
    · show ¬ aZ A k = 0; omega
    · show ¬ aZ A o = 0; omega
    · refine bd (e_laneC hC0 hk) (bd (e_laneC hC0 ho) ?_)
      · dsimp only
        rw [show aL (setS A 8 0) k = aL A k from rfl, show aL (setS A 8 0) o = aL A o from rfl, cEq_nI (by omega) (by omega)]
        by_cases hL : aL A k = aL A o
        · rw [dt hL, cond_true, cond_true]
          refine bd (e_hasCells h0 hC0 hk hzk p1 p4) ?_
          cases hf1 : fitsN p1 p4 zk with
          | false => exact cnd_t (ef rfl) (bd rfl rfl)
          | true =>
            refine cnd_f (et rfl) (bd (e_hasCells h0 hC0 ho hzz p3 p4) ?_)
            cases hf2 : fitsN p3 p4 zo with
            | false => exact cnd_f (nf rfl) (bd rfl rfl)
            | true => exact cnd_t (nt rfl) (by rw [cond_true, cond_true])
        · rw [df hL]; rfl
  have eM : ∀ σ, RM A σ → F_X5_copy (nI k) p1 (nI o) p3 p4 σ = bif decide (aL A k = aL A o) then (bif fitsN p1 p4 zk then (bif fitsN p3 p4 zo then L_X5_copy fuelN 107 (nI k) p1 (nI o) p3 p4 (0) σ else some (-10 - nI 3, sI σ 1216 (nI 3))) else some (-10 - nI 3, sI σ 1216 (nI 3))) else some (-10 - nI 2, sI σ 1216 (nI 2)) := by
    intro σ hM
    obtain ⟨m1, m2, m3, m4⟩ := m30 σ hM
    unfold F_X5_copy
    refine bd (e_noSheet _ σ) (cnd_f (nf en) (bd (e_noSheet _ σ) (cnd_t (ef eo) (cnd_t hv (cnd_f ?_ (cnd_t hv2 (cnd_t ?_ (cnd_t hv (cnd_t hv2 ?_)))))))))
    · dsimp only
      rw [m1, hzk]; exact (ck zk (by omega)).1
    · dsimp only
      rw [m2, hzz]; exact (ck zo (by omega)).2
    · dsimp only
      rw [m1, m3, m4, hzk, nI_m1, cEq_nI (by omega) (by omega)]
      by_cases hL : aL A k = aL A o
      · rw [dt hL, cond_true, cond_true]
        refine cnd_t hv (bd (e_beyond p1 p4 (by omega) σ) ?_)
        cases hf1 : fitsN p1 p4 zk with
        | false => exact cnd_t (nt rfl) (bd rfl rfl)
        | true =>
          refine cnd_f (nf rfl) (cnd_t hv2 ?_)
          dsimp only
          rw [m2, hzz, nI_m1]
          refine bd (e_beyond p3 p4 (by omega) σ) ?_
          cases hf2 : fitsN p3 p4 zo with
          | false => exact cnd_f (et rfl) (bd rfl rfl)
          | true => exact cnd_t (ef rfl) (by rw [cond_true, cond_true])
      · rw [df hL]; rfl
  by_cases hL : aL A k = aL A o
  · cases hf1 : fitsN p1 p4 zk with
    | false =>
      refine pr_flt hW 3 (by decide) (fun σ hC => ?_) (fun σ hM => ?_)
      · rw [eC σ hC, dt hL, hf1]; rfl
      · rw [eM σ hM, dt hL, hf1]; rfl
    | true =>
    cases hf2 : fitsN p3 p4 zo with
    | false =>
      refine pr_flt hW 3 (by decide) (fun σ hC => ?_) (fun σ hM => ?_)
      · rw [eC σ hC, dt hL, hf1, hf2]; rfl
      · rw [eM σ hM, dt hL, hf1, hf2]; rfl
    | true =>
    obtain ⟨i, n, rfl, rfl, hin⟩ := fits_ex (by omega) hf1
    obtain ⟨j, n2, rfl, e2, hjn⟩ := fits_ex (by omega) hf2
    have e3 : n2 = n := (nI_inj (by omega) (by omega) e2).symm
    subst e3
    have hcut : ∀ x, x < n2 → cutN (aL A o) (aX A k (i + x)) = aX A k (i + x) := fun x hx => by
      rw [← hL]; exact hW.2.1.2.2.2 k hk (i + x) (by omega)
    refine ⟨nI n2, setSh (setS A 8 0) o (zo + 1) (aL A o) (fun y => if j ≤ y ∧ y < j + n2 then aX A k (i + (y - j)) else aX A o y), WF_sh h0 (by omega) hzo.2 (fun y hy => ?_), ansC_mk fun σ hC => ?_, ansM_mk fun σ hM => ?_⟩
    · split
      · exact hcut _ (by omega)
      · exact hW.2.1.2.2.2 o ho y (by omega)
    · have hC0 := RC_f 0 hC
      obtain ⟨σ1, e, g1, g2, g3, g4, g5⟩ := rd_run k n2 i hk (by omega) n2 fuelN 0 (sI σ 5 (nI 0)) (by omega) (by unfold fuelN; omega)
      obtain ⟨σ2, f0, f1, f2, f3, f4, f5⟩ := cw_run (d := fun x => aX A k (i + x)) (j := j) ho hzo.2 (by omega) hcut n2 fuelN 0 σ1 (by omega) (by unfold fuelN; omega) (fun y hy => by rw [g5 y (Nat.zero_le _) hy]; exact (hC0.2.2.2.2.2 k hk).2.2 (i + y) (by show i + y + 1 < aZ A k; omega)) (by rw [g1]; exact (hC0.2.2.2.2.2 o ho).2.1)
      refine ⟨σ2, ?_, RC_sh ho hC0 (fun c c1 c2 c3 => ?_) (fun c _ => ?_) (fun a a1 a2 x => ?_) ?_ ?_ (fun y hy => ?_), ⟨fun z hz => ?_, fun z hz => ?_, fun a ha x => ?_⟩⟩
      · rw [eC σ hC, dt hL, hf1, hf2, cond_true, cond_true, cond_true]
        unfold F_X4_readInto
        rw [nI_0] at e f0
        exact bd e f0
      · rw [f1, g1]
      · rw [f2, g2]
      · rw [f3 a (by omega), g3 a (by omega)]
      · rw [f1, g1, ← hzz]; exact (hC0.2.2.2.2.2 o ho).1
      · rw [f1, g1]; exact (hC0.2.2.2.2.2 o ho).2.1
      · by_cases q : j ≤ y ∧ y < j + n2
        · rw [if_pos q]
          have := f5 (y - j) (Nat.zero_le _) (by omega)
          rw [show j + (y - j) = y from by omega] at this
          exact this
        · rw [if_neg q, f4 y (by omega), g3 _ (by omega)]
          exact (hC0.2.2.2.2.2 o ho).2.2 y (by show y + 1 < aZ A o; omega)
      · rw [f1, g1, gI_sI, if_neg (by omega)]
      · rw [f2, g2]; rfl
      · rw [f3 a (by omega), g3 a (by omega)]; rfl
    · obtain ⟨f', σ1, e0, e, g1, g2, g3, g4⟩ := mh_run (d := fun x => aX A k (i + x)) (o := o) (j := j) (i := i) (n := n2) hk (by omega) n2 fuelN 0 σ (by omega) (by unfold fuelN; omega) (fun y hy => by rw [Nat.add_assoc]; exact (hM.2.2.2.2.2 k hk).2.2 (i + y) (by omega)) (fun y hy => by omega)
      obtain ⟨σ2, f0, f1, f2, f3, f4, f5⟩ := mw_run (d := fun x => aX A k (i + x)) (j := j) ho (by omega) n2 f' 0 σ1 (by omega) (by unfold fuelN at e0; omega) g4
      refine ⟨sI σ2 1216 (nI 0), ?_, RM_f (A := setSh A o (zo + 1) (aL A o) (fun y => if j ≤ y ∧ y < j + n2 then aX A k (i + (y - j)) else aX A o y)) 0 (RM_sh ho hW hM (fun c _ => by rw [f1, g1]) (fun c _ => by rw [f2, g2]) (fun a a1 a2 x => by rw [f3 a (by omega), g3 a (by omega)]) (fun q hq => by rw [f3 _ (by decide), g3 _ (by decide)]) (fun q hq => by rw [f3 _ (by decide), g3 _ (by decide)]) (fun c hc => ?_) ?_ ?_ (fun y hy => ?_)), ⟨fun z hz => ?_, fun z hz => ?_, fun a ha x => ?_⟩⟩
      · rw [eM σ hM, dt hL, hf1, hf2, cond_true, cond_true, cond_true, ← nI_0, e, f0]
      · rw [f4 c (by omega), g3 _ (by decide)]
      · rw [f3 _ (by decide), g3 _ (by decide), ← hzz]; exact (hM.2.2.2.2.2 o ho).1
      · rw [f3 _ (by decide), g3 _ (by decide)]; exact (hM.2.2.2.2.2 o ho).2.1
      · by_cases q : j ≤ y ∧ y < j + n2
        · rw [if_pos q]
          have := f5 (y - j) (Nat.zero_le _) (by omega)
          rw [show 60 * o + j + (y - j) = 60 * o + y from by omega] at this
          exact this
        · rw [if_neg q, f4 _ (by omega), g3 _ (by decide)]
          exact (hM.2.2.2.2.2 o ho).2.2 y (by omega)
      · rw [gI_sI, if_neg (by omega), f1, g1]
      · rw [gL_sI, f2, g2]
      · rw [gA_sI, f3 a (by omega), g3 a (by omega)]
  · refine pr_flt hW 2 (by decide) (fun σ hC => ?_) (fun σ hM => ?_)
    · rw [eC σ hC, df hL]; rfl
    · rw [eM σ hM, df hL]; rfl
