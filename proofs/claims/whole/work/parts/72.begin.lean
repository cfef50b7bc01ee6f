/-! sea: what a whole TEXT says; the class makes all anew by it -/
def lookK (n : Nat) (d : Nat → Int32) (e : Nat) : Nat → Nat → Nat
  | 0, k => k
  | m + 1, k => if isN n d (e + 3 * k) 47 = true ∧ 0 < k then k else lookK n d e m (k + 1)
theorem tail_ok {n : Nat} {d : Nat → Int32} {W T p k : Nat} (h : tailF n d W T p k = 0) : dgN n d (p + 1) ≠ 0 ∧ dgN n d (p + 1) - 1 + k ≤ W ∧ dgN n d (p + 2) ≠ 0 ∧ dgN n d (p + 2) - 1 < T ∧ p + 3 = n := by
  unfold tailF at h
  split at h
  · omega
  · split at h
    · omega
    · split at h
      · omega
      · split at h
        · omega
        · split at h
          · rename_i a1 a2 a3 a4 a5
            exact ⟨a1, by omega, a3, by omega, a5⟩
          · omega
theorem look_ok {n : Nat} {d : Nat → Int32} {W T e : Nat} : ∀ m k, lookF n d W T e m k = 0 → k ≤ lookK n d e m k ∧ lookK n d e m k ≤ k + m ∧ 0 < lookK n d e m k ∧ tailF n d W T (e + 3 * lookK n d e m k) (lookK n d e m k) = 0 ∧ ∀ j, k ≤ j → j < lookK n d e m k → kdN n d (e + 3 * j + 1) ≠ 0 ∧ dgN n d (e + 3 * j + 2) ≠ 0 := by
  intro m
  induction m with
  | zero =>
    intro k h
    rw [lookF] at h
    split at h
    · rename_i q
      exact ⟨Nat.le_refl _, Nat.le_refl _, q.2, h, fun j h1 h2 => by have h2 : j < k := h2; omega⟩
    · omega
  | succ m ih =>
    intro k h
    rw [lookF] at h
    rw [lookK]
    split at h
    · rename_i q
      rw [if_pos q]
      exact ⟨Nat.le_refl _, by omega, q.2, h, fun j h1 h2 => by omega⟩
    · rename_i q
      rw [if_neg q]
      split at h
      · split at h
        · omega
        · split at h
          · omega
          · rename_i z0 z1 z2
            obtain ⟨a1, a2, a3, a4, a5⟩ := ih (k + 1) h
            refine ⟨by omega, by omega, a3, a4, fun j h1 h2 => ?_⟩
            by_cases e : j = k
            · rw [e]; exact ⟨z1, z2⟩
            · exact a5 j (by omega) h2
      · omega
theorem floor_ok {n : Nat} {d : Nat → Int32} {r : Nat} : ∀ m x, floorF n d r m x = 0 → r = 0 ∧ ∀ y, x ≤ y → y < x + m → dgN n d y ≠ 0 := by
  intro m
  induction m with
  | zero => intro x h; exact ⟨h, fun y h1 h2 => by omega⟩
  | succ m ih =>
    intro x h
    rw [floorF] at h
    split at h
    · omega
    · rename_i q
      obtain ⟨a1, a2⟩ := ih (x + 1) h
      refine ⟨a1, fun y h1 h2 => ?_⟩
      by_cases e : y = x
      · rw [e]; exact q
      · exact a2 y (by omega) (by omega)
/-- a TEXT that is whole: W wide, T long, K lookers -/
def Wh (n : Nat) (d : Nat → Int32) (W T K : Nat) : Prop := (2 ≤ W ∧ W ≤ 6 ∧ 2 ≤ T ∧ T ≤ 6 ∧ 1 ≤ K ∧ K ≤ 4 ∧ W * T ≤ 36) ∧ (dgN n d 1 = W + 1 ∧ dgN n d 2 = T + 1) ∧ (∀ i, i < W * T → dgN n d (3 + i) ≠ 0) ∧ (∀ j, j < K → kdN n d (3 + W * T + 3 * j + 1) ≠ 0 ∧ dgN n d (3 + W * T + 3 * j + 2) ≠ 0) ∧ dgN n d (3 + W * T + 3 * K + 1) ≠ 0 ∧ dgN n d (3 + W * T + 3 * K + 1) - 1 + K ≤ W ∧ dgN n d (3 + W * T + 3 * K + 2) ≠ 0 ∧ dgN n d (3 + W * T + 3 * K + 2) - 1 < T ∧ 3 + W * T + 3 * K + 3 = n
theorem text_ok {n : Nat} {d : Nat → Int32} (h : textF n d = 0) : Wh n d (dgN n d 1 - 1) (dgN n d 2 - 1) (lookK n d (3 + (dgN n d 1 - 1) * (dgN n d 2 - 1)) (min (dgN n d 1 - 1) 4) 0) := by
  unfold textF at h
  split at h
  · split at h
    · split at h
      · rename_i z0 z1 z2
        obtain ⟨f1, f2⟩ := floor_ok _ _ h
        obtain ⟨a1, a2, a3, a4, a5⟩ := look_ok _ _ f1
        obtain ⟨b1, b2, b3, b4, b5⟩ := tail_ok a4
        have h36 : (dgN n d 1 - 1) * (dgN n d 2 - 1) ≤ 36 := Nat.le_trans (Nat.mul_le_mul (show dgN n d 1 - 1 ≤ 6 by omega) (show dgN n d 2 - 1 ≤ 6 by omega)) (by decide)
        exact ⟨⟨by omega, by omega, by omega, by omega, by omega, by omega, h36⟩, ⟨by omega, by omega⟩, fun i hi => f2 (3 + i) (by omega) (by omega), fun j hj => a5 j (Nat.zero_le _) hj, b1, b2, b3, b4, b5⟩
      · omega
    · omega
  · omega
def seaA (A : AS) (n : Nat) (d : Nat → Int32) (W T K : Nat) : AS := (fun z => if z = 0 then W else if z = 1 then T else if z = 2 then K else if z = 3 then dgN n d (3 + W * T + 3 * K + 1) - 1 else if z = 4 then dgN n d (3 + W * T + 3 * K + 2) - 1 else if z = 5 then 0 else if z = 6 then (2 ^ K - 1) * 2 ^ (W * (dgN n d (3 + W * T + 3 * K + 2) - 1) + (dgN n d (3 + W * T + 3 * K + 1) - 1)) else if z = 7 then 0 else if z = 8 then 0 else A.1 z, fun q i => if q = 0 then dgN n d (3 + i) - 1 else if q = 1 then kdN n d (3 + W * T + 3 * i + 1) - 1 else if q = 2 then dgN n d (3 + W * T + 3 * i + 2) - 1 else A.2.1 q i, va_up A.2.2.1 1 0, A.2.2.2)
theorem WF_sea {A : AS} {n : Nat} {d : Nat → Int32} {W T K : Nat} (hA : WF A) (h : Wh n d W T K) : WF (seaA A n d W T K) := by
  obtain ⟨⟨w1, w2, w3, w4, w5, w6, w7⟩, ⟨g1, g2⟩, hh, hl, t1, t2, t3, t4, t5⟩ := h
  have dg : ∀ x, dgN n d x ≤ 10 := fun x => dgv_le _
  have kd : ∀ x, kdN n d x ≤ 3 := fun x => kdv_le _
  refine ⟨Or.inr ⟨w1, w2, w3, w4, w5, w6, t2, t4, Nat.two_pow_pos K, ?_, Nat.zero_le 8⟩, ⟨fun i hi => ?_, fun k hk => ⟨?_, ?_⟩, fun i hi => absurd hi (Nat.not_lt_zero i), hA.2.1.2.2.2⟩, Nat.zero_le 4, hA.2.2.2⟩
  · show (2 ^ K - 1) * 2 ^ (W * (dgN n d (3 + W * T + 3 * K + 2) - 1) + (dgN n d (3 + W * T + 3 * K + 1) - 1)) < 2 ^ (W * T)
    have hl := cell_lt (W := W) (c := dgN n d (3 + W * T + 3 * K + 1) - 1 + K - 1) (r := dgN n d (3 + W * T + 3 * K + 2) - 1) (T := T) (by omega) t4
    have hp : 0 < 2 ^ K := Nat.two_pow_pos K
    have h2 : (2 ^ K - 1) * 2 ^ (W * (dgN n d (3 + W * T + 3 * K + 2) - 1) + (dgN n d (3 + W * T + 3 * K + 1) - 1)) < 2 ^ K * 2 ^ (W * (dgN n d (3 + W * T + 3 * K + 2) - 1) + (dgN n d (3 + W * T + 3 * K + 1) - 1)) := Nat.mul_lt_mul_of_pos_right (by omega) (Nat.two_pow_pos _)
    rw [← Nat.pow_add] at h2
    exact Nat.lt_of_lt_of_le h2 (Nat.pow_le_pow_right (by decide) (by omega))
  · show dgN n d (3 + i) - 1 ≤ 9
    have := dg (3 + i)
    omega
  · show kdN n d (3 + W * T + 3 * k + 1) - 1 ≤ 2
    have := kd (3 + W * T + 3 * k + 1)
    omega
  · show dgN n d (3 + W * T + 3 * k + 2) - 1 ≤ 9
    have := dg (3 + W * T + 3 * k + 2)
    omega
theorem dv_p {z : Nat} (h : z ≠ 0) : dv z = nI (z - 1) := by unfold dv; rw [if_neg h]
theorem bb1 {n : Nat} {d : Nat → Int32} {W T K : Nat} (hn : n ≤ 60) (h : Wh n d W T K) : ∀ (m g i : Nat) (σ : PS), i + m = W * T → gI σ 643 = nI W → gI σ 644 = nI T → (∀ x, x < n → gA σ 18 x = d x) → ∃ σ', L_X1_beginBy 18 60 (g + m + 1) 26 (nI n) (nI i) 0 σ = L_X1_beginBy 18 60 g 76 (nI n) (nI (3 + W * T)) (nI 0) (sI σ' 645 (nI K)) ∧ (∀ z, gI σ' z = gI σ z) ∧ (∀ z, gL σ' z = gL σ z) ∧ (∀ a, a ≠ 11 → ∀ y, gA σ' a y = gA σ a y) ∧ (∀ y, y < i → gA σ' 11 y = gA σ 11 y) ∧ ∀ y, i ≤ y → y < W * T → gA σ' 11 y = nI (dgN n d (3 + y) - 1) := by
  obtain ⟨⟨w1, w2, w3, w4, w5, w6, w7⟩, ⟨g1, g2⟩, hh, hl, t1, t2, t3, t4, t5⟩ := h
  have cells : ∀ σ, gI σ 643 = nI W → gI σ 644 = nI T → F_X1_cells σ = some (nI (W * T), σ) := fun σ a b => by unfold F_X1_cells; rw [a, b, pk_mul]
  intro m
  induction m with
  | zero =>
    intro g i σ hi s1 s2 hd
    refine ⟨σ, ?_, fun _ => rfl, fun _ => rfl, fun _ _ _ => rfl, fun _ _ => rfl, fun y h1 h2 => by omega⟩
    rw [show g + 0 + 1 = g + 1 from rfl, L_X1_beginBy]
    refine cnd_t (by decide) (bd (cells σ s1 s2) (cnd_t ?_ (bd (cells σ s1 s2) (cnd_f (by decide) ?_))))
    · dsimp only
      rw [cGe_nI (by omega) (by omega)]; exact dt (by omega)
    · dsimp only
      rw [show (3 : Int32) = nI 3 from rfl, nI_add, pk_sub (by omega), pk_sub (by omega), pk_div (by omega) (by decide) (by decide), show (n - (3 + W * T) - 3) / 3 = K from by omega, nI_0]
  | succ m ih =>
    intro g i σ hi s1 s2 hd
    obtain ⟨σ', e, q1, q2, q3, q4, q5⟩ := ih g (i + 1) (sA σ 11 i (nI (dgN n d (3 + i) - 1))) (by omega) s1 s2 (fun x hx => by rw [gA_sA, if_neg (by decide)]; exact hd x hx)
    refine ⟨σ', ?_, q1, q2, fun a ha y => ?_, fun y hy => ?_, fun y h1 h2 => ?_⟩
    · rw [show g + (m + 1) + 1 = (g + m + 1) + 1 from rfl, L_X1_beginBy]
      refine cnd_t (by decide) (bd (cells σ s1 s2) (cnd_f ?_ ?_))
      · dsimp only
        rw [cGe_nI (by omega) (by omega)]; exact df (by omega)
      · rw [show (3 : Int32) = nI 3 from rfl, nI_add]
        refine bd (e_num hn hd (by omega)) (bd (e_digitOf _ σ) ?_)
        rw [show dgv (cdN n d (-1) (3 + i)) = dgN n d (3 + i) from rfl, dv_p (hh i (by omega))]
        refine bd (a := ()) (σ := sA σ 11 i (nI (dgN n d (3 + i) - 1))) ?_ ?_
        · unfold F_X1_makeHeight
          refine bd (e_setNumber _ _ σ (by decide)) ?_
          dsimp only
          rw [vin_of_lt (by omega) (by decide), tn (by omega)]; rfl
        · rw [nI_1]; exact e
    · rw [q3 a ha, gA_sA, if_neg ha]
    · rw [q4 y (by omega), gA_sA, if_pos rfl, if_neg (by omega)]
    · by_cases h3 : y = i
      · rw [q4 y (by omega), gA_sA, if_pos rfl, if_pos h3, h3]
      · exact q5 y (by omega) h2
theorem shl_m1 : ∀ K, K < 5 → shl 1 (nI K) - 1 = nI (2 ^ K - 1) := by decide +kernel
theorem pw16 : ∀ K, K < 5 → 2 ^ K - 1 < 16 := by decide
theorem bb2 {n : Nat} {d : Nat → Int32} {W T K : Nat} (hn : n ≤ 60) (h : Wh n d W T K) : ∀ (m f k : Nat) (σ : PS), k + m = K → m < f → gI σ 643 = nI W → gI σ 645 = nI K → (∀ x, x < n → gA σ 18 x = d x) → ∃ σ', L_X1_beginBy 18 60 f 76 (nI n) (nI (3 + W * T)) (nI k) σ = some ((), sI (sL (sI (sI σ' 647 (nI (W * (dgN n d (3 + W * T + 3 * K + 2) - 1) + (dgN n d (3 + W * T + 3 * K + 1) - 1)))) 646 (nI (2 ^ K - 1))) 648 (lN ((2 ^ K - 1) * 2 ^ (W * (dgN n d (3 + W * T + 3 * K + 2) - 1) + (dgN n d (3 + W * T + 3 * K + 1) - 1))))) 649 0) ∧ (∀ z, gI σ' z = gI σ z) ∧ (∀ z, gL σ' z = gL σ z) ∧ (∀ a, a ≠ 12 → a ≠ 13 → ∀ y, gA σ' a y = gA σ a y) ∧ (∀ y, y < k → gA σ' 12 y = gA σ 12 y ∧ gA σ' 13 y = gA σ 13 y) ∧ ∀ y, k ≤ y → y < K → gA σ' 12 y = nI (kdN n d (3 + W * T + 3 * y + 1) - 1) ∧ gA σ' 13 y = nI (dgN n d (3 + W * T + 3 * y + 2) - 1) := by
  obtain ⟨⟨w1, w2, w3, w4, w5, w6, w7⟩, ⟨g1, g2⟩, hh, hl, t1, t2, t3, t4, t5⟩ := h
  have dg : ∀ x, dgN n d x ≤ 10 := fun x => dgv_le _
  have e3 : ∀ k, nI (3 + W * T) + 3 * nI k = nI (3 + W * T + 3 * k) := fun k => by rw [show (3 : Int32) = nI 3 from rfl, pk_mul, nI_add]
  have hl2 := cell_lt (W := W) (c := dgN n d (3 + W * T + 3 * K + 1) - 1) (r := dgN n d (3 + W * T + 3 * K + 2) - 1) (T := T) (by omega) t4
  intro m
  induction m with
  | zero =>
    intro f k σ hk hf s1 s2 hd
    obtain ⟨f, rfl⟩ : ∃ f', f = f' + 1 := ⟨f - 1, by omega⟩
    refine ⟨σ, ?_, fun _ => rfl, fun _ => rfl, fun _ _ _ _ => rfl, fun _ _ => ⟨rfl, rfl⟩, fun y h1 h2 => by omega⟩
    rw [L_X1_beginBy]
    refine cnd_f (by decide) (cnd_t (by decide) (cnd_t ?_ ?_))
    · rw [s2, cGe_nI (by omega) (by omega)]; exact dt (by omega)
    · rw [show (2 : Int32) = nI 2 from rfl, show nI n - 1 = nI (n - 1) from pk_sub (a := n) (b := 1) (by omega), pk_sub (by omega), show n - 2 = 3 + W * T + 3 * K + 1 from by omega, show n - 1 = 3 + W * T + 3 * K + 2 from by omega]
      refine bd (e_num hn hd (by omega)) (bd (e_digitOf _ σ) (bd (e_num hn hd (by omega)) (bd (e_digitOf _ σ) ?_)))
      rw [show dgv (cdN n d (-1) (3 + W * T + 3 * K + 1)) = dgN n d (3 + W * T + 3 * K + 1) from rfl, show dgv (cdN n d (-1) (3 + W * T + 3 * K + 2)) = dgN n d (3 + W * T + 3 * K + 2) from rfl, dv_p t1, dv_p t3]
      dsimp only
      rw [s1, pk_mul, nI_add, Nat.add_comm (dgN n d (3 + W * T + 3 * K + 1) - 1)]
      have hP : W * (dgN n d (3 + W * T + 3 * K + 2) - 1) + (dgN n d (3 + W * T + 3 * K + 1) - 1) < 64 := by omega
      generalize W * (dgN n d (3 + W * T + 3 * K + 2) - 1) + (dgN n d (3 + W * T + 3 * K + 1) - 1) = P at hP ⊢
      have h645 : gI (sI σ 647 (nI P)) 645 = nI K := by rw [gI_sI, if_neg (by decide)]; exact s2
      have h647 : gI (sI (sI σ 647 (nI P)) 646 (nI (2 ^ K - 1))) 647 = nI P := by rw [gI_sI, if_neg (by decide), gI_sI, if_pos rfl]
      have hp := pw16 K (by omega)
      rw [h645, shl_m1 K (by omega), h647]
      unfold F_X1_seenFrom
      rw [gI_sI, if_pos rfl, nI_l (by omega), lshl_n _ (by omega)]
      rfl
  | succ m ih =>
    intro f k σ hk hf s1 s2 hd
    obtain ⟨f, rfl⟩ : ∃ f', f = f' + 1 := ⟨f - 1, by omega⟩
    obtain ⟨l1, l2⟩ := hl k (by omega)
    obtain ⟨σ', e, q1, q2, q3, q4, q5⟩ := ih f (k + 1) (sA (sA σ 12 k (nI (kdN n d (3 + W * T + 3 * k + 1) - 1))) 13 k (nI (dgN n d (3 + W * T + 3 * k + 2) - 1))) (by omega) (by omega) s1 s2 (fun x hx => by rw [gA_sA, if_neg (by decide), gA_sA, if_neg (by decide)]; exact hd x hx)
    refine ⟨σ', ?_, q1, q2, fun a a1 a2 y => ?_, fun y hy => ?_, fun y h1 h2 => ?_⟩
    · rw [L_X1_beginBy]
      refine cnd_f (by decide) (cnd_t (by decide) (cnd_f ?_ ?_))
      · rw [s2, cGe_nI (by omega) (by omega)]; exact df (by omega)
      · rw [e3, show (2 : Int32) = nI 2 from rfl, nI_1, nI_add]
        refine bd (e_num hn hd (by omega)) (bd (e_kindOf2 _ σ) ?_)
        rw [show kdv (cdN n d (-1) (3 + W * T + 3 * k + 1)) = kdN n d (3 + W * T + 3 * k + 1) from rfl, dv_p l1]
        refine bd (a := ()) (σ := sA σ 12 k (nI (kdN n d (3 + W * T + 3 * k + 1) - 1))) ?_ ?_
        · rw [e_setNumber _ _ _ (by decide), vin_of_lt (by omega) (by decide), tn (by omega)]; rfl
        · have hd2 : ∀ x, x < n → gA (sA σ 12 k (nI (kdN n d (3 + W * T + 3 * k + 1) - 1))) 18 x = d x := fun x hx => by rw [gA_sA, if_neg (by decide)]; exact hd x hx
          refine bd (e_num hn hd2 (by omega)) (bd (e_digitOf _ _) ?_)
          rw [show dgv (cdN n d (-1) (3 + W * T + 3 * k + 2)) = dgN n d (3 + W * T + 3 * k + 2) from rfl, dv_p l2]
          refine bd (a := ()) (σ := sA (sA σ 12 k (nI (kdN n d (3 + W * T + 3 * k + 1) - 1))) 13 k (nI (dgN n d (3 + W * T + 3 * k + 2) - 1))) ?_ ?_
          · unfold F_X1_makeShort
            refine bd (e_setNumber _ _ _ (by decide)) ?_
            dsimp only
            rw [vin_of_lt (by omega) (by decide), tn (by omega)]; rfl
          · dsimp only
            rw [nI_1]
            exact e
    · rw [q3 a a1 a2, gA_sA, if_neg a2, gA_sA, if_neg a1]
    · obtain ⟨z1, z2⟩ := q4 y (by omega)
      rw [z1, z2, gA_sA, if_neg (by decide), gA_sA, if_pos rfl, if_neg (by omega), gA_sA, if_pos rfl, if_neg (by omega), gA_sA, if_neg (by decide)]
      exact ⟨rfl, rfl⟩
    · by_cases h3 : y = k
      · obtain ⟨z1, z2⟩ := q4 y (by omega)
        rw [z1, z2, gA_sA, if_neg (by decide), gA_sA, if_pos rfl, if_pos h3, gA_sA, if_pos rfl, if_pos h3, h3]
        exact ⟨rfl, rfl⟩
      · exact q5 y (by omega) h2
theorem e_begin {A : AS} {n : Nat} {d : Nat → Int32} {W T K : Nat} {σ : PS} (hn : n ≤ 60) (h : Wh n d W T K) (hC : RC (setS A 8 0) σ) (hd : ∀ x, x < n → gA σ 18 x = d x) : ∃ σ', ((F_X1_beginBy 18 60 (nI n) σ).bind fun q5 => (F_X0_keep 0 q5.2).bind fun q6 => (F_X1_lookers q6.2).bind fun q7 => some (q7.1, q7.2)) = some (nI K, σ') ∧ RC (seaA A n d W T K) σ' ∧ eqM σ σ' := by
  have h0 := h
  obtain ⟨⟨w1, w2, w3, w4, w5, w6, w7⟩, ⟨g1, g2⟩, hh, hl, t1, t2, t3, t4, t5⟩ := h0
  obtain ⟨f0, hf0⟩ : ∃ f0, fuelN = (f0 + W * T) + 1 := ⟨fuelN - W * T - 1, by unfold fuelN; omega⟩
  have hfb : 100 ≤ f0 := by unfold fuelN at hf0; omega
  obtain ⟨σ1, e1, a1, a2, a3, a4, a5⟩ := bb1 (d := d) hn h (W * T) f0 0 (sI (sI σ 643 (nI W)) 644 (nI T)) (Nat.zero_add _) (by rw [gI_sI, if_neg (by decide), gI_sI, if_pos rfl]) (by rw [gI_sI, if_pos rfl]) hd
  obtain ⟨σ2, e2, b1, b2, b3, b4, b5⟩ := bb2 (d := d) hn h K f0 0 (sI σ1 645 (nI K)) (Nat.zero_add _) (by omega) (by rw [gI_sI, if_neg (by decide), a1, gI_sI, if_neg (by decide), gI_sI, if_pos rfl]) (by rw [gI_sI, if_pos rfl]) (fun x hx => by rw [gA_sI, a3 18 (by decide)]; exact hd x hx)
  have hI : ∀ z, gI σ2 z = if z = 645 then nI K else if z = 644 then nI T else if z = 643 then nI W else gI σ z := fun z => by rw [b1, gI_sI, a1, gI_sI, gI_sI]
  have hL : ∀ z, gL σ2 z = gL σ z := fun z => by rw [b2]; exact a2 z
  refine ⟨sI (sI (sL (sI (sI σ2 647 (nI (W * (dgN n d (3 + W * T + 3 * K + 2) - 1) + (dgN n d (3 + W * T + 3 * K + 1) - 1)))) 646 (nI (2 ^ K - 1))) 648 (lN ((2 ^ K - 1) * 2 ^ (W * (dgN n d (3 + W * T + 3 * K + 2) - 1) + (dgN n d (3 + W * T + 3 * K + 1) - 1))))) 649 0) 899 0, ?_, ?_, ⟨fun z hz => ?_, fun z hz => ?_, fun a ha y => ?_⟩⟩
  · refine bd (a := ()) (r := F_X1_beginBy 18 60 (nI n) σ) (σ := sI (sL (sI (sI σ2 647 (nI (W * (dgN n d (3 + W * T + 3 * K + 2) - 1) + (dgN n d (3 + W * T + 3 * K + 1) - 1)))) 646 (nI (2 ^ K - 1))) 648 (lN ((2 ^ K - 1) * 2 ^ (W * (dgN n d (3 + W * T + 3 * K + 2) - 1) + (dgN n d (3 + W * T + 3 * K + 1) - 1))))) 649 0) ?_ (bd (a := ()) rfl ?_)
    · unfold F_X1_beginBy
      refine bd (e_num (x := 1) hn hd (dg_in g1)) (bd (e_digitOf _ σ) ?_)
      rw [show dgv (cdN n d (-1) 1) = dgN n d 1 from rfl, g1, dv_s]
      have hd2 : ∀ x, x < n → gA (sI σ 643 (nI W)) 18 x = d x := hd
      refine bd (e_num (x := 2) hn hd2 (dg_in g2)) (bd (e_digitOf _ _) ?_)
      rw [show dgv (cdN n d (-1) 2) = dgN n d 2 from rfl, g2, dv_s, hf0, ← nI_0]
      have e1 : L_X1_beginBy 18 60 (f0 + W * T + 1) 26 (nI n) (nI 0) (nI 0) (sI (sI σ 643 (nI W)) 644 (nI T)) = _ := e1
      exact e1.trans e2
    · unfold F_X1_lookers
      refine bd (a := nI K) ?_ rfl
      dsimp only
      rw [gI_sI, if_neg (by decide), gI_sI, if_neg (by decide), gI_sL, gI_sI, if_neg (by decide), gI_sI, if_neg (by decide), hI, if_pos rfl]
      rfl
  · obtain ⟨⟨c1, c2, c3, c4, c5, c6, c7⟩, ⟨c8, c9⟩, ⟨c10, c11⟩, c12, c13, c14⟩ := hC
    have hG : ∀ z, z ≠ 899 → z ≠ 649 → z ≠ 646 → z ≠ 647 → gI (sI (sI (sL (sI (sI σ2 647 (nI (W * (dgN n d (3 + W * T + 3 * K + 2) - 1) + (dgN n d (3 + W * T + 3 * K + 1) - 1)))) 646 (nI (2 ^ K - 1))) 648 (lN ((2 ^ K - 1) * 2 ^ (W * (dgN n d (3 + W * T + 3 * K + 2) - 1) + (dgN n d (3 + W * T + 3 * K + 1) - 1))))) 649 0) 899 0) z = if z = 645 then nI K else if z = 644 then nI T else if z = 643 then nI W else gI σ z := fun z z1 z2 z3 z4 => by
      rw [gI_sI, if_neg z1, gI_sI, if_neg z2, gI_sL, gI_sI, if_neg z3, gI_sI, if_neg z4, hI]
    refine ⟨⟨?_, ?_, ?_, ?_, ?_, ?_, ?_⟩, ⟨fun i hi => ?_, fun k hk => ?_⟩, ⟨?_, fun i hi => absurd hi (Nat.not_lt_zero i)⟩, ?_, ?_, fun k hk => ⟨?_, ?_, fun i hi => ?_⟩⟩
    · rw [hG _ (by decide) (by decide) (by decide) (by decide)]; rfl
    · rw [hG _ (by decide) (by decide) (by decide) (by decide)]; rfl
    · rw [hG _ (by decide) (by decide) (by decide) (by decide)]; rfl
    · rw [gI_sI, if_neg (by decide), gI_sI, if_neg (by decide), gI_sL, gI_sI, if_pos rfl]
      show nI (2 ^ K - 1) = nI ((2 ^ K - 1) ^^^ 0)
      rw [Nat.xor_zero]
    · rw [gI_sI, if_neg (by decide), gI_sI, if_neg (by decide), gI_sL, gI_sI, if_neg (by decide), gI_sI, if_pos rfl]; rfl
    · rw [gL_sI, gL_sI, gL_sL, if_pos rfl]; rfl
    · rw [gI_sI, if_neg (by decide), gI_sI, if_pos rfl]; rfl
    · have hi : i < W * T := hi
      rw [gA_sI, gA_sI, gA_sL, gA_sI, gA_sI, b3 11 (by decide) (by decide), gA_sI, a5 i (Nat.zero_le _) hi]; rfl
    · have hk : k < K := hk
      obtain ⟨z1, z2⟩ := b5 k (Nat.zero_le _) hk
      rw [gA_sI, gA_sI, gA_sL, gA_sI, gA_sI, z1, gA_sI, gA_sI, gA_sL, gA_sI, gA_sI, z2]
      exact ⟨rfl, rfl⟩
    · rw [gI_sI, if_pos rfl]; rfl
    · rw [hG _ (by decide) (by decide) (by decide) (by decide), if_neg (by decide), if_neg (by decide), if_neg (by decide)]; exact c12
    · rw [hG _ (by decide) (by decide) (by decide) (by decide), if_neg (by decide), if_neg (by decide), if_neg (by decide)]; exact c13
    · rw [hG _ (by omega) (by omega) (by omega) (by omega), if_neg (by omega), if_neg (by omega), if_neg (by omega)]; exact (c14 k hk).1
    · rw [hG _ (by omega) (by omega) (by omega) (by omega), if_neg (by omega), if_neg (by omega), if_neg (by omega)]; exact (c14 k hk).2.1
    · rw [gA_sI, gA_sI, gA_sL, gA_sI, gA_sI, b3 _ (by omega) (by omega), gA_sI, a3 _ (by omega)]; exact (c14 k hk).2.2 i hi
  · rw [gI_sI, if_neg (by omega), gI_sI, if_neg (by omega), gI_sL, gI_sI, if_neg (by omega), gI_sI, if_neg (by omega), hI, if_neg (by omega), if_neg (by omega), if_neg (by omega)]
  · rw [gL_sI, gL_sI, gL_sL, if_neg (by omega), gL_sI, gL_sI, hL]
  · rw [gA_sI, gA_sI, gA_sL, gA_sI, gA_sI, b3 _ (by omega) (by omega), gA_sI, a3 _ (by omega)]; rfl
