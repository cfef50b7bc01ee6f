/-! the pairs of shorts and kinds -/
def soB (A : AS) (k kd sh j : Nat) : Bool := decide (∀ r, r < aN A → j ≤ r → tellN (if aRo A r = k then kd else aKd A (aRo A r)) (if aRo A r = k then sh else aSh A (aRo A r)) (aRa A r) = aRw A r)
theorem so_end {A : AS} {k kd sh j : Nat} (h : aN A ≤ j) : soB A k kd sh j = true := dt fun x h1 h2 => by omega
theorem so_succ {A : AS} {k kd sh j : Nat} (h : j < aN A) : soB A k kd sh j = (decide (tellN (if aRo A j = k then kd else aKd A (aRo A j)) (if aRo A j = k then sh else aSh A (aRo A j)) (aRa A j) = aRw A j) && soB A k kd sh (j + 1)) := by
  unfold soB
  by_cases h1 : tellN (if aRo A j = k then kd else aKd A (aRo A j)) (if aRo A j = k then sh else aSh A (aRo A j)) (aRa A j) = aRw A j
  · rw [dt h1, Bool.true_and, decide_eq_decide]
    constructor
    · intro q x hx hj; exact q x hx (by omega)
    · intro q x hx hj
      by_cases e : x = j
      · rw [e]; exact h1
      · exact q x hx (by omega)
  · rw [df h1, Bool.false_and]
    exact df fun q => h1 (q j h (Nat.le_refl _))
theorem tell_le {kd sh h : Nat} (hh : h ≤ 9) : tellN kd sh h ≤ 20 := by
  unfold tellN
  split
  · omega
  · split <;> omega
theorem soC_run {A : AS} {σ : PS} (hW : WF A) (hC : RC A σ) {k kd sh : Nat} (hk : k < aK A) (h1 : kd ≤ 2) (h2 : sh ≤ 9) : ∀ (m f j : Nat), j + m = aN A → m < f → L_X0_areSo f (nI k) (nI kd) (nI sh) (nI j) σ = some (bI (soB A k kd sh j), σ) := by
  have hb := wf_b hW
  intro m
  induction m with
  | zero =>
    intro f j hj hf
    obtain ⟨f, rfl⟩ : ∃ f', f = f' + 1 := ⟨f - 1, by omega⟩
    rw [L_X0_areSo, so_end (by omega)]
    exact cnd_t (by rw [hC.2.2.1.1, cGe_nI (by omega) (by omega)]; exact dt (by omega)) rfl
  | succ m ih =>
    intro f j hj hf
    obtain ⟨f, rfl⟩ : ∃ f', f = f' + 1 := ⟨f - 1, by omega⟩
    obtain ⟨r1, r2, r3⟩ := hC.2.2.1.2 j (by omega)
    obtain ⟨w1, w2, w3⟩ := hW.2.1.2.2.1 j (by omega)
    have n15 : F_X4_numberAt 15 8 (nI j) σ = some (nI (aRo A j), σ) := by rw [e_numberAt _ σ (by decide), vin_of_lt (by omega) (by decide), tn (by omega), cond_true, r1]
    have n16 : F_X4_numberAt 16 8 (nI j) σ = some (nI (aRa A j), σ) := by rw [e_numberAt _ σ (by decide), vin_of_lt (by omega) (by decide), tn (by omega), cond_true, r2]
    have n17 : F_X4_numberAt 17 8 (nI j) σ = some (nI (aRw A j), σ) := by rw [e_numberAt _ σ (by decide), vin_of_lt (by omega) (by decide), tn (by omega), cond_true, r3]
    have hkd := wf_kd hW w1
    have ih' := ih f (j + 1) (by omega) (by omega)
    rw [L_X0_areSo, so_succ (by omega)]
    refine cnd_f (by rw [hC.2.2.1.1, cGe_nI (by omega) (by omega)]; exact df (by omega)) (bd n15 ?_)
    have hne : cNe (nI (aRo A j)) (nI k) = !decide (aRo A j = k) := cNe_nI (by omega) (by omega)
    by_cases e : aRo A j = k
    · rw [if_pos e, if_pos e]
      have ht := tell_le (kd := kd) (sh := sh) w2
      have he : cEq (nI (tellN kd sh (aRa A j))) (nI (aRw A j)) = decide (tellN kd sh (aRa A j) = aRw A j) := cEq_nI (by omega) (by omega)
      refine cnd_f (hne.trans (by rw [dt e]; rfl)) (cnd_f (hne.trans (by rw [dt e]; rfl)) (bd n16 (bd (e_told σ h1 h2 w2) (bd n17 ?_))))
      by_cases q : tellN kd sh (aRa A j) = aRw A j
      · rw [dt q, Bool.true_and]
        refine cnd_t (he.trans (dt q)) ?_
        rw [nI_1]; exact ih'
      · rw [df q]; exact cnd_f (he.trans (df q)) rfl
    · rw [if_neg e, if_neg e]
      have ht := tell_le (kd := aKd A (aRo A j)) (sh := aSh A (aRo A j)) w2
      have he : cEq (nI (tellN (aKd A (aRo A j)) (aSh A (aRo A j)) (aRa A j))) (nI (aRw A j)) = decide (tellN (aKd A (aRo A j)) (aSh A (aRo A j)) (aRa A j) = aRw A j) := cEq_nI (by omega) (by omega)
      refine cnd_t (hne.trans (by rw [df e]; rfl)) (bd (e_kindOf hW hC w1) (cnd_t (hne.trans (by rw [df e]; rfl)) (bd (e_shortOf hW hC w1) (bd n16 (bd (e_told σ hkd.1 hkd.2 w2) (bd n17 ?_))))))
      by_cases q : tellN (aKd A (aRo A j)) (aSh A (aRo A j)) (aRa A j) = aRw A j
      · rw [dt q, Bool.true_and]
        refine cnd_t (he.trans (dt q)) ?_
        rw [nI_1]; exact ih'
      · rw [df q]; exact cnd_f (he.trans (df q)) rfl
theorem soM_run {A : AS} {σ : PS} (hW : WF A) (hM : RM A σ) {k : Nat} : ∀ (m f j : Nat) (t : Bool), j + m = aN A → m < f → L_X5_areSo f (bI t) (nI j) σ = some (bI (t && soB A k (aKd A k) (aSh A k) j), σ) := by
  have hb := wf_b hW
  intro m
  induction m with
  | zero =>
    intro f j t hj hf
    obtain ⟨f, rfl⟩ : ∃ f', f = f' + 1 := ⟨f - 1, by omega⟩
    rw [L_X5_areSo, so_end (by omega), Bool.and_true]
    exact cnd_t (by rw [hM.2.2.1.1, cGe_nI (by omega) (by omega)]; exact dt (by omega)) (cnd_t (okb_bI t) rfl)
  | succ m ih =>
    intro f j t hj hf
    obtain ⟨f, rfl⟩ : ∃ f', f = f' + 1 := ⟨f - 1, by omega⟩
    obtain ⟨r1, r2, r3⟩ := hM.2.2.1.2 j (by omega)
    obtain ⟨w1, w2, w3⟩ := hW.2.1.2.2.1 j (by omega)
    have v8 : vin (nI j) 8 = true := vin_of_lt (by omega) (by decide)
    rw [L_X5_areSo, so_succ (by omega)]
    have hif1 : (if aRo A j = k then aKd A k else aKd A (aRo A j)) = aKd A (aRo A j) := by split <;> simp_all
    have hif2 : (if aRo A j = k then aSh A k else aSh A (aRo A j)) = aSh A (aRo A j) := by split <;> simp_all
    rw [hif1, hif2]
    refine cnd_f (by rw [hM.2.2.1.1, cGe_nI (by omega) (by omega)]; exact df (by omega)) ?_
    cases t with
    | false =>
      refine cnd_t (ef rfl) ?_
      rw [nI_1]
      exact ih f (j + 1) false (by omega) (by omega)
    | true =>
      have ht := tell_le (kd := aKd A (aRo A j)) (sh := aSh A (aRo A j)) w2
      have he : cNe (nI (tellN (aKd A (aRo A j)) (aSh A (aRo A j)) (aRa A j))) (nI (aRw A j)) = !decide (tellN (aKd A (aRo A j)) (aSh A (aRo A j)) (aRa A j) = aRw A j) := cNe_nI (by omega) (by omega)
      refine cnd_f (et rfl) (cnd_t v8 (cnd_t v8 ?_))
      rw [tn (by omega), r1, r2]
      refine bd (e_tells hW hM w1 w2) (cnd_t v8 ?_)
      dsimp only
      rw [r3, he, nI_1]
      by_cases q : tellN (aKd A (aRo A j)) (aSh A (aRo A j)) (aRa A j) = aRw A j
      · rw [dt q, Bool.true_and, Bool.true_and]
        have := ih f (j + 1) true (by omega) (by omega)
        rw [Bool.true_and] at this
        exact this
      · rw [df q, Bool.false_and, Bool.and_false]
        exact ih f (j + 1) false (by omega) (by omega)
theorem e_soM {A : AS} {σ : PS} (hW : WF A) (hM : RM A σ) (k : Nat) : F_X5_areSo σ = some (bI (soB A k (aKd A k) (aSh A k) 0), σ) := by
  have := soM_run hW hM (k := k) (aN A) fuelN 0 true (by omega) (by have := wf_b hW; unfold fuelN; omega)
  rw [Bool.true_and, nI_0] at this
  exact this
def setB (p : Nat → Bool) : Nat → Nat → Int32 → Int32
  | 0, _, x => x
  | m + 1, v, x => setB p m (v + 1) (bif p v then x ||| shl 1 (nI v) else x)
theorem setN_N (A : AS) (r i u v : Nat) : setN (setN A r i u) r i v = setN A r i v := by
  unfold setN va_up
  refine Prod.ext rfl (Prod.ext ?_ rfl)
  funext q j
  dsimp only
  by_cases h : q = r
  · simp only [if_pos h, if_true]
    split <;> rfl
  · simp only [if_neg h]
theorem setN_id (A : AS) (r i v : Nat) (h : A.2.1 r i = v) : setN A r i v = A := by
  unfold setN va_up
  refine Prod.ext rfl (Prod.ext ?_ rfl)
  funext q j
  dsimp only
  by_cases h1 : q = r
  · rw [if_pos h1]
    by_cases h2 : j = i
    · rw [if_pos h2, h1, h2, h]
    · rw [if_neg h2, h1]
  · rw [if_neg h1]
theorem shC_run {A : AS} {σ : PS} (hW : WF A) (hC : RC A σ) {k : Nat} (hk : k < aK A) : ∀ (m f v : Nat) (x : Int32), v + m = 10 → m < f → L_X4_shorts f (nI k) x (nI v) σ = some (setB (fun v => soB A k (aKd A k) v 0) m v x, σ) := by
  have hb := wf_b hW
  intro m
  induction m with
  | zero =>
    intro f v x hv hf
    obtain ⟨f, rfl⟩ : ∃ f', f = f' + 1 := ⟨f - 1, by omega⟩
    rw [L_X4_shorts]
    exact cnd_t ((cGt_nI (b := 9) (by omega) (by decide)).trans (dt (by omega))) rfl
  | succ m ih =>
    intro f v x hv hf
    obtain ⟨f, rfl⟩ : ∃ f', f = f' + 1 := ⟨f - 1, by omega⟩
    rw [L_X4_shorts]
    refine cnd_f ((cGt_nI (b := 9) (by omega) (by decide)).trans (df (by omega))) (bd (e_kindOf hW hC hk) ?_)
    have e := soC_run hW hC hk (wf_kd hW hk).1 (sh := v) (by omega) (aN A) fuelN 0 (by omega) (by unfold fuelN; omega)
    rw [nI_0] at e
    unfold F_X0_areSo
    refine bd e ?_
    show _ = some (setB (fun v => soB A k (aKd A k) v 0) m (v + 1) (bif soB A k (aKd A k) v 0 then x ||| shl 1 (nI v) else x), σ)
    rw [← ih f (v + 1) _ (by omega) (by omega), ← nI_1]
    cases soB A k (aKd A k) v 0 with
    | false => exact cnd_t (ef rfl) (by rw [cond_false])
    | true => exact cnd_f (et rfl) (by rw [cond_true])
theorem shM_run {A : AS} (hW : WF A) {k : Nat} (hk : k < aK A) : ∀ (m f v u : Nat) (x : Int32) (σ : PS), v + m = 10 → m < f → RM (setN A 2 k u) σ → ∃ σ', L_X5_shorts f (nI k) (nI (aSh A k)) x (nI v) σ = some (setB (fun v => soB A k (aKd A k) v 0) m v x, σ') ∧ RM A σ' ∧ eqC σ σ' := by
  have hb := wf_b hW
  have v4 : vin (nI k) 4 = true := vin_of_lt (by omega) (by decide)
  intro m
  induction m with
  | zero =>
    intro f v u x σ hv hf hM
    obtain ⟨f, rfl⟩ : ∃ f', f = f' + 1 := ⟨f - 1, by omega⟩
    refine ⟨sA σ 22 k (nI (aSh A k)), ?_, ?_, eqC_sA (by decide)⟩
    · rw [L_X5_shorts]
      refine cnd_t ((cGe_nI (b := 10) (by omega) (by decide)).trans (dt (by omega))) (cnd_t v4 ?_)
      rw [tn (by omega)]; rfl
    · have := RM_s (j := k) (v := aSh A k) hM
      rw [setN_N, setN_id A 2 k _ rfl] at this
      exact this
  | succ m ih =>
    intro f v u x σ hv hf hM
    obtain ⟨f, rfl⟩ : ∃ f', f = f' + 1 := ⟨f - 1, by omega⟩
    have hM2 := RM_s (j := k) (v := v) hM
    rw [setN_N] at hM2
    obtain ⟨σ', e, e1, e2⟩ := ih f (v + 1) v (bif soB A k (aKd A k) v 0 then x ||| shl 1 (nI v) else x) (sA σ 22 k (nI v)) (by omega) (by omega) hM2
    refine ⟨σ', ?_, e1, (eqC_sA (by decide)).tr e2⟩
    rw [L_X5_shorts]
    refine cnd_f ((cGe_nI (b := 10) (by omega) (by decide)).trans (df (by omega))) (cnd_t v4 ?_)
    rw [tn (by omega)]
    refine bd (e_soM (WF_s hW (by omega)) hM2 k) ?_
    have hs : soB (setN A 2 k v) k (aKd (setN A 2 k v) k) (aSh (setN A 2 k v) k) 0 = soB A k (aKd A k) v 0 := by
      unfold soB
      rw [decide_eq_decide]
      have q : aSh (setN A 2 k v) k = v := by show (if k = k then v else _) = v; rw [if_pos rfl]
      have q2 : ∀ r, (if aRo A r = k then v else aSh (setN A 2 k v) (aRo A r)) = (if aRo A r = k then v else aSh A (aRo A r)) := fun r => by
        by_cases c : aRo A r = k
        · rw [if_pos c, if_pos c]
        · rw [if_neg c, if_neg c]; show (if aRo A r = k then v else _) = _; rw [if_neg c]
      rw [q]
      constructor
      · intro z r h1 h2; have z2 := z r h1 h2; rw [show aRo (setN A 2 k v) r = aRo A r from rfl, q2] at z2; exact z2
      · intro z r h1 h2; have z2 := z r h1 h2; rw [show aRo (setN A 2 k v) r = aRo A r from rfl, q2]; exact z2
    rw [hs]
    show _ = some (setB (fun v => soB A k (aKd A k) v 0) m (v + 1) (bif soB A k (aKd A k) v 0 then x ||| shl 1 (nI v) else x), σ')
    rw [← e, ← nI_1]
    cases soB A k (aKd A k) v 0 with
    | false => exact cnd_t (ef rfl) (by rw [cond_false, Int32.or_zero])
    | true => exact cnd_f (et rfl) (by rw [cond_true])
theorem pr_shorts (σ : PS) (h : Rel σ) (p0 : Int32) : Pair (F_X4_shorts p0) (F_X5_shorts p0) σ := pair_of h fun A hW => by
  have hb := (wf_b hW).2.2.1
  cases hv : vin p0 (aK A) with
  | false =>
    refine ⟨-1, A, hW, ansC_q fun σ hC => ?_, ansM_q fun σ hM => ?_⟩
    · unfold F_X4_shorts
      exact bd (e_isLooker hW hC p0) (cnd_f (nf hv) rfl)
    · unfold F_X5_shorts
      exact bd (e_noLooker hW hM p0) (cnd_f (et (by rw [hv]; rfl)) rfl)
  | true =>
    obtain ⟨k, hk, rfl⟩ := vin_ex hv (by omega)
    refine ⟨setB (fun v => soB A k (aKd A k) v 0) 10 0 0, A, hW, ansC_q fun σ hC => ?_, ansM_mk fun σ hM => ?_⟩
    · have e := shC_run hW hC hk 10 fuelN 0 0 (by omega) (by unfold fuelN; omega)
      rw [nI_0] at e
      unfold F_X4_shorts
      exact bd (e_isLooker hW hC _) (cnd_t (nt hv) e)
    · obtain ⟨σ', e, e1, e2⟩ := shM_run hW hk 10 fuelN 0 (aSh A k) 0 σ (by omega) (by unfold fuelN; omega) (by rw [setN_id A 2 k _ rfl]; exact hM)
      refine ⟨σ', ?_, e1, e2⟩
      rw [nI_0] at e
      unfold F_X5_shorts
      refine bd (e_noLooker hW hM _) (cnd_t (ef (by rw [hv]; rfl)) (cnd_t (vin_of_lt (by omega) (by decide)) ?_))
      rw [tn (by omega)]
      dsimp only
      rw [(hM.2.1.2 k hk).2]
      exact e
theorem WF_kd {A : AS} {j v : Nat} (h : WF A) (hv : v ≤ 2) : WF (setN A 1 j v) := by
  obtain ⟨h1, ⟨h2, h3, h4⟩, h5⟩ := h
  refine ⟨h1, ⟨h2, fun k hk => ⟨?_, (h3 k hk).2⟩, h4⟩, h5⟩
  show (if k = j then v else aKd A k) ≤ 2
  split
  · exact hv
  · exact (h3 k hk).1
theorem RM_kd {A : AS} {σ : PS} {j v : Nat} (h : RM A σ) : RM (setN A 1 j v) (sA σ 21 j (nI v)) := by
  obtain ⟨h1, ⟨h2, h3⟩, ⟨h4, h5⟩, h6, h7, h8⟩ := h
  refine ⟨h1, ⟨fun i hi => ?_, fun k hk => ⟨?_, ?_⟩⟩, ⟨h4, fun i hi => ?_⟩, h6, h7, fun k hk => ⟨?_, ?_, fun i hi => ?_⟩⟩
  · rw [gA_sA, if_neg (by omega)]; exact h2 i hi
  · rw [gA_sA, if_pos rfl]
    show (if k = j then nI v else gA σ 21 k) = nI (if k = j then v else aKd A k)
    split
    · rfl
    · exact (h3 k hk).1
  · rw [gA_sA, if_neg (by omega)]; exact (h3 k hk).2
  · rw [gA_sA, if_neg (by omega), gA_sA, if_neg (by omega), gA_sA, if_neg (by omega)]; exact h5 i hi
  · rw [gA_sA, if_neg (by omega)]; exact (h8 k hk).1
  · rw [gA_sA, if_neg (by omega)]; exact (h8 k hk).2.1
  · rw [gA_sA, if_neg (by omega)]; exact (h8 k hk).2.2 i hi
theorem kdC_run {A : AS} {σ : PS} (hW : WF A) (hC : RC A σ) {k : Nat} (hk : k < aK A) : ∀ (m f v : Nat) (x : Int32), v + m = 3 → m < f → L_X4_kinds f (nI k) x (nI v) σ = some (setB (fun v => soB A k v (aSh A k) 0) m v x, σ) := by
  have hb := wf_b hW
  intro m
  induction m with
  | zero =>
    intro f v x hv hf
    obtain ⟨f, rfl⟩ : ∃ f', f = f' + 1 := ⟨f - 1, by omega⟩
    rw [L_X4_kinds]
    exact cnd_t ((cGt_nI (b := 2) (by omega) (by decide)).trans (dt (by omega))) rfl
  | succ m ih =>
    intro f v x hv hf
    obtain ⟨f, rfl⟩ : ∃ f', f = f' + 1 := ⟨f - 1, by omega⟩
    rw [L_X4_kinds]
    refine cnd_f ((cGt_nI (b := 2) (by omega) (by decide)).trans (df (by omega))) (bd (e_shortOf hW hC hk) ?_)
    have e := soC_run hW hC hk (kd := v) (by omega) (wf_kd hW hk).2 (aN A) fuelN 0 (by omega) (by unfold fuelN; omega)
    rw [nI_0] at e
    unfold F_X0_areSo
    refine bd e ?_
    show _ = some (setB (fun v => soB A k v (aSh A k) 0) m (v + 1) (bif soB A k v (aSh A k) 0 then x ||| shl 1 (nI v) else x), σ)
    rw [← ih f (v + 1) _ (by omega) (by omega), ← nI_1]
    cases soB A k v (aSh A k) 0 with
    | false => exact cnd_t (ef rfl) (by rw [cond_false])
    | true => exact cnd_f (et rfl) (by rw [cond_true])
theorem kdM_run {A : AS} (hW : WF A) {k : Nat} (hk : k < aK A) : ∀ (m f v u : Nat) (x : Int32) (σ : PS), v + m = 3 → m < f → RM (setN A 1 k u) σ → ∃ σ', L_X5_kinds f (nI k) (nI (aKd A k)) x (nI v) σ = some (setB (fun v => soB A k v (aSh A k) 0) m v x, σ') ∧ RM A σ' ∧ eqC σ σ' := by
  have hb := wf_b hW
  have v4 : vin (nI k) 4 = true := vin_of_lt (by omega) (by decide)
  intro m
  induction m with
  | zero =>
    intro f v u x σ hv hf hM
    obtain ⟨f, rfl⟩ : ∃ f', f = f' + 1 := ⟨f - 1, by omega⟩
    refine ⟨sA σ 21 k (nI (aKd A k)), ?_, ?_, eqC_sA (by decide)⟩
    · rw [L_X5_kinds]
      refine cnd_t ((cGe_nI (b := 3) (by omega) (by decide)).trans (dt (by omega))) (cnd_t v4 ?_)
      rw [tn (by omega)]; rfl
    · have := RM_kd (j := k) (v := aKd A k) hM
      rw [setN_N, setN_id A 1 k _ rfl] at this
      exact this
  | succ m ih =>
    intro f v u x σ hv hf hM
    obtain ⟨f, rfl⟩ : ∃ f', f = f' + 1 := ⟨f - 1, by omega⟩
    have hM2 := RM_kd (j := k) (v := v) hM
    rw [setN_N] at hM2
    obtain ⟨σ', e, e1, e2⟩ := ih f (v + 1) v (bif soB A k v (aSh A k) 0 then x ||| shl 1 (nI v) else x) (sA σ 21 k (nI v)) (by omega) (by omega) hM2
    refine ⟨σ', ?_, e1, (eqC_sA (by decide)).tr e2⟩
    rw [L_X5_kinds]
    refine cnd_f ((cGe_nI (b := 3) (by omega) (by decide)).trans (df (by omega))) (cnd_t v4 ?_)
    rw [tn (by omega)]
    refine bd (e_soM (WF_kd hW (by omega)) hM2 k) ?_
    have hs : soB (setN A 1 k v) k (aKd (setN A 1 k v) k) (aSh (setN A 1 k v) k) 0 = soB A k v (aSh A k) 0 := by
      unfold soB
      rw [decide_eq_decide]
      have q : aKd (setN A 1 k v) k = v := by show (if k = k then v else _) = v; rw [if_pos rfl]
      have q2 : ∀ r, (if aRo A r = k then v else aKd (setN A 1 k v) (aRo A r)) = (if aRo A r = k then v else aKd A (aRo A r)) := fun r => by
        by_cases c : aRo A r = k
        · rw [if_pos c, if_pos c]
        · rw [if_neg c, if_neg c]; show (if aRo A r = k then v else _) = _; rw [if_neg c]
      rw [q]
      constructor
      · intro z r h1 h2; have z2 := z r h1 h2; rw [show aRo (setN A 1 k v) r = aRo A r from rfl, q2] at z2; exact z2
      · intro z r h1 h2; have z2 := z r h1 h2; rw [show aRo (setN A 1 k v) r = aRo A r from rfl, q2]; exact z2
    rw [hs]
    show _ = some (setB (fun v => soB A k v (aSh A k) 0) m (v + 1) (bif soB A k v (aSh A k) 0 then x ||| shl 1 (nI v) else x), σ')
    rw [← e, ← nI_1]
    cases soB A k v (aSh A k) 0 with
    | false => exact cnd_t (ef rfl) (by rw [cond_false, Int32.or_zero])
    | true => exact cnd_f (et rfl) (by rw [cond_true])
theorem pr_kinds (σ : PS) (h : Rel σ) (p0 : Int32) : Pair (F_X4_kinds p0) (F_X5_kinds p0) σ := pair_of h fun A hW => by
  have hb := (wf_b hW).2.2.1
  cases hv : vin p0 (aK A) with
  | false =>
    refine ⟨-1, A, hW, ansC_q fun σ hC => ?_, ansM_q fun σ hM => ?_⟩
    · unfold F_X4_kinds
      exact bd (e_isLooker hW hC p0) (cnd_f (nf hv) rfl)
    · unfold F_X5_kinds
      exact bd (e_noLooker hW hM p0) (cnd_f (et (by rw [hv]; rfl)) rfl)
  | true =>
    obtain ⟨k, hk, rfl⟩ := vin_ex hv (by omega)
    refine ⟨setB (fun v => soB A k v (aSh A k) 0) 3 0 0, A, hW, ansC_q fun σ hC => ?_, ansM_mk fun σ hM => ?_⟩
    · have e := kdC_run hW hC hk 3 fuelN 0 0 (by omega) (by unfold fuelN; omega)
      rw [nI_0] at e
      unfold F_X4_kinds
      exact bd (e_isLooker hW hC _) (cnd_t (nt hv) e)
    · obtain ⟨σ', e, e1, e2⟩ := kdM_run hW hk 3 fuelN 0 (aKd A k) 0 σ (by omega) (by unfold fuelN; omega) (by rw [setN_id A 1 k _ rfl]; exact hM)
      refine ⟨σ', ?_, e1, e2⟩
      rw [nI_0] at e
      unfold F_X5_kinds
      refine bd (e_noLooker hW hM _) (cnd_t (ef (by rw [hv]; rfl)) (cnd_t (vin_of_lt (by omega) (by decide)) ?_))
      rw [tn (by omega)]
      dsimp only
      rw [(hM.2.1.2 k hk).1]
      exact e
