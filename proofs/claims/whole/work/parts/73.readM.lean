/-! sea: how the model reads a TEXT -/
theorem inR_exG {p : Int32} {a b : Nat} (ha : a < 2147483648) (hb : b < 2147483648) (h : inR p a b = true) : ∃ j, a ≤ j ∧ j ≤ b ∧ p = nI j := by
  rcases p_cases p with hp | ⟨j, hj, rfl⟩
  · exfalso
    have q : p < nI a := by
      rw [Int32.lt_iff_toInt_lt] at hp ⊢
      rw [show (0 : Int32).toInt = 0 from by decide] at hp
      rw [nI_toInt ha]
      omega
    unfold inR at h
    rw [dt q] at h
    cases h
  · rw [inR_pos hj ha hb, Bool.and_eq_true] at h
    exact ⟨j, of_decide_eq_true h.1, of_decide_eq_true h.2, rfl⟩
theorem dgv_n {j : Nat} (h1 : 48 ≤ j) (h2 : j ≤ 57) : dgv (nI j) = j - 47 := by
  unfold dgv
  rw [inR_pos (by omega) (by decide) (by decide), dt h1, dt h2, tn (by omega)]; rfl
theorem fg_in (v : Int32) {lo hi : Nat} (hhi : hi ≤ 9) (hlo : lo ≤ 9) : inR (v - 48) lo hi = decide (lo + 1 ≤ dgv v ∧ dgv v ≤ hi + 1) := by
  rw [Bool.eq_iff_iff, decide_eq_true_eq]
  constructor
  · intro h
    obtain ⟨j, h1, h2, h3⟩ := inR_exG (by omega) (by omega) h
    have hv : v = nI (j + 48) := by
      have := congrArg (· + 48) h3
      rw [Int32.sub_add_cancel, show (48 : Int32) = nI 48 from rfl, nI_add] at this
      exact this
    rw [hv, dgv_n (by omega) (by omega)]
    omega
  · rintro ⟨h1, h2⟩
    cases hq : inR v 48 57 with
    | false =>
      unfold dgv at h1
      rw [hq, if_neg (by decide)] at h1
      omega
    | true =>
      obtain ⟨j, j1, j2, rfl⟩ := inR_ex48 hq
      rw [dgv_n j1 j2] at h1 h2
      rw [show (48 : Int32) = nI 48 from rfl, pk_sub j1, inR_pos (by omega) (by omega) (by omega), dt (show lo ≤ j - 48 by omega), dt (show j - 48 ≤ hi by omega)]; rfl
theorem fg_v {v : Int32} (h : dgv v ≠ 0) : v - 48 = nI (dgv v - 1) := by
  cases hq : inR v 48 57 with
  | false =>
    unfold dgv at h
    rw [hq, if_neg (by decide)] at h
    exact absurd rfl h
  | true =>
    obtain ⟨j, j1, j2, rfl⟩ := inR_ex48 hq
    rw [dgv_n j1 j2, show (48 : Int32) = nI 48 from rfl, pk_sub j1]
    congr 1
theorem cd9 {n : Nat} {d : Nat → Int32} (x : Nat) {v : Int32} (h1 : -1 ≠ v) (h9 : -9 ≠ v) : decide (cdN n d (-9) x = v) = isN n d x v := by
  unfold isN cdN
  by_cases h : x < n
  · rw [if_pos h, if_pos h]
  · rw [if_neg h, if_neg h, df h1, df h9]
theorem dg9 {n : Nat} {d : Nat → Int32} (x : Nat) : dgv (cdN n d (-9) x) = dgN n d x := by
  unfold dgN cdN
  by_cases h : x < n
  · rw [if_pos h, if_pos h]
  · rw [if_neg h, if_neg h]; decide
theorem kd9 {n : Nat} {d : Nat → Int32} (x : Nat) : kdv (cdN n d (-9) x) = kdN n d x := by
  unfold kdN cdN
  by_cases h : x < n
  · rw [if_pos h, if_pos h]
  · rw [if_neg h, if_neg h]; decide
theorem e_codeM {n b : Nat} {d : Nat → Int32} {σ : PS} {x : Nat} (hb : b + n ≤ 240) (hd : ∀ y, y < n → gA σ 32 (b + y) = d y) (hx : gI σ 1228 = nI x) (hx2 : x < 1000) : F_X5_codeAt (nI b) (nI n) σ = some (cdN n d (-9) x, σ) := by
  unfold F_X5_codeAt cdN
  rw [hx, cGe_nI (by omega) (by omega), nI_add]
  by_cases h : x < n
  · rw [df (by omega), if_pos h]
    refine cnd_f rfl (cnd_t (vin_of_lt (by omega) (by decide)) ?_)
    rw [tn (by omega), hd x h]
  · rw [dt (by omega), if_neg h]; rfl
def figB (n : Nat) (d : Nat → Int32) (x lo hi : Nat) : Bool := decide (lo + 1 ≤ dgN n d x ∧ dgN n d x ≤ hi + 1)
theorem e_fig {n b : Nat} {d : Nat → Int32} {σ : PS} {x lo hi : Nat} {p2 : Int32} (hb : b + n ≤ 240) (hd : ∀ y, y < n → gA σ 32 (b + y) = d y) (hx : gI σ 1228 = nI x) (hx2 : x < 1000) (hlo : lo ≤ 9) (hhi : hi ≤ 9) (hp : cGe p2 0 = true) : F_X5_figure (nI b) (nI n) p2 (nI lo) (nI hi) σ = some (bif figB n d x lo hi then nI (dgN n d x - 1) else -9, sI σ 1228 (nI (x + bif figB n d x lo hi then 1 else 0))) := by
  unfold F_X5_figure figB
  refine cnd_t hp (bd (e_codeM hb hd hx hx2) ?_)
  dsimp only
  rw [nI_l (by omega), nI_l (by omega)]
  refine bd (e_inR _ lo hi (by omega) (by omega) σ) ?_
  rw [fg_in _ hhi hlo, dg9]
  by_cases q : lo + 1 ≤ dgN n d x ∧ dgN n d x ≤ hi + 1
  · rw [dt q, cond_true, cond_true]
    refine cnd_f (et rfl) (cnd_f (et rfl) ?_)
    dsimp only
    rw [hx, nI_1, fg_v (by rw [dg9]; omega), dg9]
  · rw [df q, cond_false, cond_false]
    refine cnd_t (ef rfl) (cnd_t (ef rfl) ?_)
    dsimp only
    rw [hx, show (0 : Int32) = nI 0 from rfl, nI_add]
theorem e_figN {n b : Nat} {σ : PS} {x lo hi : Nat} {p2 : Int32} (hx : gI σ 1228 = nI x) (hlo : lo ≤ 9) (hhi : hi ≤ 9) (hp : cGe p2 0 = false) : F_X5_figure (nI b) (nI n) p2 (nI lo) (nI hi) σ = some (-9, sI σ 1228 (nI x)) := by
  have h9 : inR (-9) lo hi = false := by
    unfold inR
    rw [dt (show (-9 : Int32) < nI lo from ?_)]
    · rfl
    · rw [Int32.lt_iff_toInt_lt, nI_toInt (by omega), show (-9 : Int32).toInt = -9 from by decide]; omega
  unfold F_X5_figure
  refine cnd_f hp ?_
  rw [nI_l (by omega), nI_l (by omega)]
  refine bd (e_inR _ lo hi (by omega) (by omega) σ) ?_
  rw [h9]
  refine cnd_t (ef rfl) (cnd_t (ef rfl) ?_)
  dsimp only
  rw [hx, show (0 : Int32) = nI 0 from rfl, nI_add, Nat.add_zero]
/-- one looker of the TEXT, behind its letter -/
noncomputable def kbM (p0 p1 kv : Int32) (s2 : PS) : Option (Int32 × PS) :=
  let S := sI s2 1228 (gI s2 1228 + 1)
  let U := sA S 24 (Int32.toNatClampNeg (gI S 1231)) kv
  bif vin (gI S 1231) 4 then (F_X5_figure p0 p1 0 0 9 U).bind fun q =>
    let V := sI (sA q.2 25 (Int32.toNatClampNeg (gI U 1231)) q.1) 1231 (gI (sA q.2 25 (Int32.toNatClampNeg (gI U 1231)) q.1) 1231 + 1)
    bif vin (gI U 1231) 4 then (bif vin (gI V 1231 - 1) 4 then (bif cLt (gA V 25 (Int32.toNatClampNeg (gI V 1231 - 1))) 0 then some (0, V) else some (1, V)) else none) else none
  else none
theorem kb_run {n b : Nat} {d : Nat → Int32} {s2 : PS} {p k kv : Nat} (hb : b + n ≤ 240) (hd : ∀ y, y < n → gA s2 32 (b + y) = d y) (hp : gI s2 1228 = nI (p + 1)) (hp2 : p < 900) (hk : gI s2 1231 = nI k) (hk4 : k < 4) : ∃ V, kbM (nI b) (nI n) (nI kv) s2 = some (bI (!decide (dgN n d (p + 2) = 0)), V) ∧ (∀ z, z ≠ 1228 → z ≠ 1231 → gI V z = gI s2 z) ∧ gI V 1228 = nI (p + 2 + if dgN n d (p + 2) = 0 then 0 else 1) ∧ gI V 1231 = nI (k + 1) ∧ (∀ z, gL V z = gL s2 z) ∧ (∀ a, a ≠ 24 → a ≠ 25 → ∀ y, gA V a y = gA s2 a y) ∧ (∀ y, y ≠ k → gA V 24 y = gA s2 24 y ∧ gA V 25 y = gA s2 25 y) ∧ gA V 24 k = nI kv ∧ (dgN n d (p + 2) ≠ 0 → gA V 25 k = nI (dgN n d (p + 2) - 1)) := by
  have dg : dgN n d (p + 2) ≤ 10 := dgv_le _
  have hfb : figB n d (p + 2) 0 9 = !decide (dgN n d (p + 2) = 0) := by
    unfold figB
    by_cases q : dgN n d (p + 2) = 0
    · rw [dt q, df (by omega)]; rfl
    · rw [df q, dt (by omega)]; rfl
  have hS : gI (sI s2 1228 (gI s2 1228 + 1)) 1231 = nI k := by rw [gI_sI, if_neg (by decide)]; exact hk
  have hU : gI (sA (sI s2 1228 (gI s2 1228 + 1)) 24 k (nI kv)) 1231 = nI k := by rw [gI_sA]; exact hS
  have hU2 : gI (sA (sI s2 1228 (gI s2 1228 + 1)) 24 k (nI kv)) 1228 = nI (p + 2) := by rw [gI_sA, gI_sI, if_pos rfl, hp, nI_1]
  have hf := e_fig (n := n) (b := b) (d := d) (lo := 0) (hi := 9) (p2 := 0) hb (fun y hy => by rw [gA_sA, if_neg (by decide), gA_sI]; exact hd y hy) hU2 (by omega) (by decide) (by decide) (by decide)
  rw [hfb] at hf
  refine ⟨sI (sA (sI (sA (sI s2 1228 (gI s2 1228 + 1)) 24 k (nI kv)) 1228 (nI (p + 2 + bif !decide (dgN n d (p + 2) = 0) then 1 else 0))) 25 k (bif !decide (dgN n d (p + 2) = 0) then nI (dgN n d (p + 2) - 1) else -9)) 1231 (nI (k + 1)), ?_, fun z z1 z2 => ?_, ?_, ?_, fun _ => rfl, fun a a1 a2 y => ?_, fun y hy => ⟨?_, ?_⟩, ?_, fun hq => ?_⟩
  · unfold kbM
    dsimp only
    rw [hS, tn (by omega), hU, tn (by omega)]
    refine cnd_t (vin_of_lt hk4 (by decide)) (bd hf (cnd_t (vin_of_lt hk4 (by decide)) ?_))
    dsimp only
    rw [gI_sI, if_pos rfl, gI_sA, gI_sI, if_neg (by decide), hU, nI_1, nI_pred, tn (by omega), gA_sI, gA_sA, if_pos rfl, if_pos rfl]
    refine cnd_t (vin_of_lt hk4 (by decide)) ?_
    by_cases q : dgN n d (p + 2) = 0
    · rw [dt q]; rfl
    · rw [df q]
      exact cnd_f (cLt_pos (by omega)) rfl
  · rw [gI_sI, if_neg z2, gI_sA, gI_sI, if_neg z1, gI_sA, gI_sI, if_neg z1]
  · rw [gI_sI, if_neg (by decide), gI_sA, gI_sI, if_pos rfl]
    by_cases q : dgN n d (p + 2) = 0
    · rw [dt q, if_pos q]; rfl
    · rw [df q, if_neg q]; rfl
  · rw [gI_sI, if_pos rfl]
  · rw [gA_sI, gA_sA, if_neg a2, gA_sI, gA_sA, if_neg a1]; rfl
  · rw [gA_sI, gA_sA, if_neg (by decide), gA_sI, gA_sA, if_pos rfl, if_neg hy]; rfl
  · rw [gA_sI, gA_sA, if_pos rfl, if_neg hy, gA_sI, gA_sA, if_neg (by decide)]; rfl
  · rw [gA_sI, gA_sA, if_neg (by decide), gA_sI, gA_sA, if_pos rfl, if_pos rfl]
  · rw [gA_sI, gA_sA, if_pos rfl, if_pos rfl, df hq]; rfl
theorem kdv_v {v : Int32} (h : kdv v ≠ 0) : v = 112 ∧ kdv v = 1 ∨ v = 100 ∧ kdv v = 2 ∨ v = 103 ∧ kdv v = 3 := by
  unfold kdv at h ⊢
  by_cases h1 : v = 112
  · left; exact ⟨h1, by rw [if_pos h1]⟩
  · by_cases h2 : v = 100
    · right; left; exact ⟨h2, by rw [if_neg h1, if_pos h2]⟩
    · by_cases h3 : v = 103
      · right; right; exact ⟨h3, by rw [if_neg h1, if_neg h2, if_pos h3]⟩
      · rw [if_neg h1, if_neg h2, if_neg h3] at h; exact absurd rfl h
theorem kdv_0 {v : Int32} (h : kdv v = 0) : cEq v 112 = false ∧ cEq v 100 = false ∧ cEq v 103 = false := by
  unfold kdv at h
  by_cases h1 : v = 112
  · rw [if_pos h1] at h; cases h
  · by_cases h2 : v = 100
    · rw [if_neg h1, if_pos h2] at h; cases h
    · by_cases h3 : v = 103
      · rw [if_neg h1, if_neg h2, if_pos h3] at h; cases h
      · exact ⟨df h1, df h2, df h3⟩
theorem rl_0 {n b : Nat} {d : Nat → Int32} {σ : PS} {W p k : Nat} (hb : b + n ≤ 240) (hd : ∀ y, y < n → gA σ 32 (b + y) = d y) (hp : gI σ 1228 = nI p) (hp2 : p < 900) (hk : gI σ 1231 = nI k) (hW : gI σ 1229 = nI W) (hkW : k ≤ min W 4) (hW9 : W < 10) (hz : isN n d p 59 = false ∨ k = min W 4) : F_X5_readsLooker (nI b) (nI n) σ = some (0, σ) := by
  unfold F_X5_readsLooker
  refine bd (e_codeM hb hd hp (by omega)) ?_
  dsimp only
  rw [hk, hW]
  have hc : cNe (cdN n d (-9) p) 59 = !isN n d p 59 := by rw [cNe_d, cd9 p (by decide) (by decide)]
  rw [hc]
  cases hq : isN n d p 59 with
  | false => rfl
  | true =>
    rcases hz with z | z
    · rw [hq] at z; cases z
    · refine cnd_f rfl ?_
      by_cases h4 : k = 4
      · rw [h4]; exact cnd_t (by decide) rfl
      · refine cnd_f ((cEq_nI (b := 4) (by omega) (by decide)).trans (df h4)) (cnd_f ?_ rfl)
        rw [cNe_nI (by omega) (by omega), dt (by omega)]; rfl
set_option maxRecDepth 20000 in
theorem rl_1 {n b : Nat} {d : Nat → Int32} {σ : PS} {W p k : Nat} (hb : b + n ≤ 240) (hd : ∀ y, y < n → gA σ 32 (b + y) = d y) (hp : gI σ 1228 = nI p) (hp2 : p < 900) (hk : gI σ 1231 = nI k) (hW : gI σ 1229 = nI W) (hkW : k < min W 4) (hW9 : W < 10) (hz : isN n d p 59 = true) : F_X5_readsLooker (nI b) (nI n) σ = if kdN n d (p + 1) = 0 then some (0, sI σ 1228 (nI (p + 1))) else kbM (nI b) (nI n) (nI (kdN n d (p + 1) - 1)) (sI σ 1228 (nI (p + 1))) := by
  have hc : cNe (cdN n d (-9) p) 59 = false := by rw [cNe_d, cd9 p (by decide) (by decide), hz]; rfl
  have hp1 : gI (sI σ 1228 (nI (p + 1))) 1228 = nI (p + 1) := by rw [gI_sI, if_pos rfl]
  unfold F_X5_readsLooker
  refine bd (e_codeM hb hd hp (by omega)) ?_
  dsimp only
  rw [hk, hW, hc]
  refine cnd_f rfl (cnd_f ((cEq_nI (b := 4) (by omega) (by decide)).trans (df (by omega))) (cnd_t ?_ ?_))
  · rw [cNe_nI (by omega) (by omega), df (by omega)]; rfl
  · rw [hp, nI_1]
    refine bd (e_codeM hb (σ := sI σ 1228 (nI (p + 1))) (x := p + 1) hd hp1 (by omega)) ?_
    by_cases h0 : kdN n d (p + 1) = 0
    · rw [if_pos h0]
      rw [← kd9] at h0
      obtain ⟨q1, q2, q3⟩ := kdv_0 h0
      exact cnd_f q1 (cnd_f q2 (cnd_f q3 rfl))
    · rw [if_neg h0]
      rw [← kd9] at h0 ⊢
      rcases kdv_v h0 with ⟨q1, q2⟩ | ⟨q1, q2⟩ | ⟨q1, q2⟩
      · rw [q2, q1]
        exact cnd_t (show cEq 112 112 = true from by decide) (cnd_f (show cNe 112 112 = false from by decide) rfl)
      · rw [q2, q1]
        exact cnd_f (show cEq 100 112 = false from by decide) (cnd_t (show cEq 100 100 = true from by decide) (cnd_t (show cNe 100 112 = true from by decide) (cnd_f (show cNe 100 100 = false from by decide) rfl)))
      · rw [q2, q1]
        exact cnd_f (show cEq 103 112 = false from by decide) (cnd_f (show cEq 103 100 = false from by decide) (cnd_t (show cEq 103 103 = true from by decide) (cnd_t (show cNe 103 112 = true from by decide) (cnd_t (show cNe 103 100 = true from by decide) rfl))))
