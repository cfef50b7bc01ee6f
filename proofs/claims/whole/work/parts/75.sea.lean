/-! sea: the model reads a TEXT and makes all anew; the pair -/
/-- what has been read of a whole TEXT -/
def Rd (n : Nat) (d : Nat → Int32) (W T K : Nat) (σ : PS) : Prop := gI σ 1229 = nI W ∧ gI σ 1230 = nI T ∧ gI σ 1231 = nI K ∧ gI σ 1232 = nI (dgN n d (3 + W * T + 3 * K + 1) - 1) ∧ gI σ 1233 = nI (dgN n d (3 + W * T + 3 * K + 2) - 1) ∧ (∀ i, i < W * T → gA σ 23 i = nI (dgN n d (3 + i) - 1)) ∧ ∀ j, j < K → gA σ 24 j = nI (kdN n d (3 + W * T + 3 * j + 1) - 1) ∧ gA σ 25 j = nI (dgN n d (3 + W * T + 3 * j + 2) - 1)
theorem rsea {n b : Nat} {d : Nat → Int32} {σ : PS} (hn : n ≤ 60) (hb : b + n ≤ 240) (hd : ∀ y, y < n → gA σ 32 (b + y) = d y) : ∃ σ', F_X5_readsSea (nI b) (nI n) σ = some (bI (decide (textF n d = 0)), σ') ∧ FrR σ σ' ∧ (∀ z, textF n d = z + 1 → gI σ' 1228 = nI z) ∧ (textF n d = 0 → Rd n d (dgN n d 1 - 1) (dgN n d 2 - 1) (lookK n d (3 + (dgN n d 1 - 1) * (dgN n d 2 - 1)) (min (dgN n d 1 - 1) 4) 0) σ') := by
  obtain ⟨f0, hf0⟩ : ∃ f0, fuelN = f0 + 1 := ⟨fuelN - 1, by unfold fuelN; omega⟩
  have hfb : 1000 ≤ f0 := by unfold fuelN at hf0; omega
  have g0 : gI (sI (sI σ 1228 0) 1231 0) 1228 = nI 0 := by rw [gI_sI, if_neg (by decide), gI_sI, if_pos rfl, nI_0]
  have F0 : FrR σ (sI (sI σ 1228 0) 1231 0) := (FrR.sI (by decide) (by decide)).tr (FrR.sI (by decide) (by decide))
  have ec := e_codeM hb (σ := sI (sI σ 1228 0) 1231 0) (d := d) hd g0 (by decide)
  unfold F_X5_readsSea
  cases h0 : isN n d 0 102 with
  | false =>
    have ht : textF n d = 1 := by unfold textF; rw [h0, if_neg (by decide)]
    rw [ht]
    refine ⟨_, bd ec (cnd_f ?_ ?_), F0, fun z hz => by rw [g0, show z = 0 from by omega], fun q => by omega⟩
    · dsimp only
      rw [cEq_d, cd9 _ (by decide) (by decide)]; exact h0
    · rw [df (by omega)]; rfl
  | true =>
  have hc0 : cEq (cdN n d (-9) 0) 102 = true := by rw [cEq_d, cd9 _ (by decide) (by decide)]; exact h0
  have g1 : sI (sI (sI σ 1228 0) 1231 0) 1228 (gI (sI (sI σ 1228 0) 1231 0) 1228 + 1) = sI (sI (sI σ 1228 0) 1231 0) 1228 (nI 1) := by rw [g0, nI_1]
  -- the floor's edges
  have F1 : FrR σ (sI (sI (sI σ 1228 0) 1231 0) 1228 (nI 1)) := F0.tr (FrR.sI (by decide) (by decide))
  have z1 : dgN n d 1 ≤ 10 := dgv_le _
  have z2 : dgN n d 2 ≤ 10 := dgv_le _
  have f1 : F_X5_figure (nI b) (nI n) 0 2 6 (sI (sI (sI σ 1228 0) 1231 0) 1228 (nI 1)) = some (bif figB n d 1 2 6 then nI (dgN n d 1 - 1) else -9, sI (sI (sI (sI σ 1228 0) 1231 0) 1228 (nI 1)) 1228 (nI (1 + bif figB n d 1 2 6 then 1 else 0))) := e_fig (lo := 2) (hi := 6) hb (F1.d hd) (by rw [gI_sI, if_pos rfl]) (by decide) (by decide) (by decide) (by decide)
  -- the end where the floor isn't read
  have out : ∀ (s : PS) (z : Nat), textF n d = z + 1 → F_X5_readsFloor (nI b) (nI n) (sI (sI (sI σ 1228 0) 1231 0) 1228 (nI 1)) = some (bI false, s) → FrR σ s → gI s 1228 = nI z → ∃ σ', ((F_X5_codeAt (nI b) (nI n) (sI (sI σ 1228 0) 1231 0)).bind fun q8 => let v8 := q8.1; let s8 := q8.2; bif cEq v8 102 then (F_X5_readsFloor (nI b) (nI n) (sI s8 1228 (gI s8 1228 + 1))).bind fun q9 => let v9 := q9.1; let s9 := q9.2; L_X5_readsSea fuelN (nI b) (nI n) v9 s9 else some (0, s8)) = some (bI (decide (textF n d = 0)), σ') ∧ FrR σ σ' ∧ (∀ z, textF n d = z + 1 → gI σ' 1228 = nI z) ∧ (textF n d = 0 → Rd n d (dgN n d 1 - 1) (dgN n d 2 - 1) (lookK n d (3 + (dgN n d 1 - 1) * (dgN n d 2 - 1)) (min (dgN n d 1 - 1) 4) 0) σ') := by
    intro s z ht hr hF hz
    refine ⟨s, bd ec (cnd_t hc0 ?_), hF, fun y hy => by rw [hz, show z = y from by omega], fun q => by omega⟩
    dsimp only
    rw [g1]
    refine bd hr ?_
    dsimp only
    rw [hf0, ht, df (by omega)]
    exact rs_false f0 s
  by_cases q1 : 3 ≤ dgN n d 1 ∧ dgN n d 1 ≤ 7
  · rw [show figB n d 1 2 6 = true from dt (by omega), cond_true, cond_true] at f1
    obtain ⟨W, hW⟩ : ∃ W, dgN n d 1 = W + 1 := ⟨dgN n d 1 - 1, by omega⟩
    rw [hW, Nat.add_sub_cancel] at f1
    have gW : gI (sI (sI (sI (sI (sI σ 1228 0) 1231 0) 1228 (nI 1)) 1228 (nI (1 + 1))) 1229 (nI W)) 1229 = nI W := by rw [gI_sI, if_pos rfl]
    have F2 : FrR σ (sI (sI (sI (sI (sI σ 1228 0) 1231 0) 1228 (nI 1)) 1228 (nI (1 + 1))) 1229 (nI W)) := (F1.tr (FrR.sI (by decide) (by decide))).tr (FrR.sI (by decide) (by decide))
    have f2 : F_X5_figure (nI b) (nI n) (nI W) 2 6 (sI (sI (sI (sI (sI σ 1228 0) 1231 0) 1228 (nI 1)) 1228 (nI (1 + 1))) 1229 (nI W)) = some (bif figB n d 2 2 6 then nI (dgN n d 2 - 1) else -9, sI (sI (sI (sI (sI (sI σ 1228 0) 1231 0) 1228 (nI 1)) 1228 (nI (1 + 1))) 1229 (nI W)) 1228 (nI (2 + bif figB n d 2 2 6 then 1 else 0))) := e_fig (lo := 2) (hi := 6) hb (F2.d hd) (by rw [gI_sI, if_neg (by decide), gI_sI, if_pos rfl]) (by decide) (by decide) (by decide) (cGe_p (by omega))
    by_cases q2 : 3 ≤ dgN n d 2 ∧ dgN n d 2 ≤ 7
    · rw [show figB n d 2 2 6 = true from dt (by omega), cond_true, cond_true] at f2
      obtain ⟨T, hT⟩ : ∃ T, dgN n d 2 = T + 1 := ⟨dgN n d 2 - 1, by omega⟩
      rw [hT, Nat.add_sub_cancel] at f2
      have h36 : W * T ≤ 36 := Nat.le_trans (Nat.mul_le_mul (show W ≤ 6 by omega) (show T ≤ 6 by omega)) (by decide)
      have F3 : FrR σ (sI (sI (sI (sI (sI (sI (sI σ 1228 0) 1231 0) 1228 (nI 1)) 1228 (nI (1 + 1))) 1229 (nI W)) 1228 (nI (2 + 1))) 1230 (nI T)) := (F2.tr (FrR.sI (by decide) (by decide))).tr (FrR.sI (by decide) (by decide))
      obtain ⟨σ4, e4, a1, a2, a3, a4, a5, a6⟩ := fl_run (d := d) hb h36 (W * T) fuelN 0 (sI (sI (sI (sI (sI (sI (sI σ 1228 0) 1231 0) 1228 (nI 1)) 1228 (nI (1 + 1))) 1229 (nI W)) 1228 (nI (2 + 1))) 1230 (nI T)) (Nat.zero_add _) (by omega) (F3.d hd) (by rw [gI_sI, if_neg (by decide), gI_sI, if_pos rfl]) (by rw [gI_sI, if_neg (by decide), gI_sI, if_neg (by decide), gI_sI, if_pos rfl]) (by rw [gI_sI, if_pos rfl])
      have F4 : FrR σ σ4 := F3.tr ⟨fun z hz => a1 z (by omega), a2, fun a ha y => a3 a (by omega) y⟩
      have efl : F_X5_readsFloor (nI b) (nI n) (sI (sI (sI σ 1228 0) 1231 0) 1228 (nI 1)) = some (bI (decide (floorB n d (W * T) (3 + 0) = 0)), σ4) := by
        unfold F_X5_readsFloor
        refine bd f1 ?_
        dsimp only
        rw [gW]
        refine bd f2 (cnd_f ?_ ?_)
        · dsimp only
          rw [gI_sI, if_pos rfl]
          exact (cLe_n0 (by omega)).trans (df (by omega))
        · rw [nI_0] at e4
          exact e4
      have hfl := floor_B n d (lookF n d W T (3 + W * T) (min W 4) 0) (W * T) 3
      have htx : textF n d = floorF n d (lookF n d W T (3 + W * T) (min W 4) 0) (W * T) 3 := by
        unfold textF
        rw [h0, if_pos rfl, if_pos q1, if_pos q2, hW, hT, Nat.add_sub_cancel, Nat.add_sub_cancel]
      by_cases q3 : floorB n d (W * T) 3 = 0
      · rw [if_pos q3] at hfl
        rw [hfl] at htx
        rw [show (3 : Nat) + 0 = 3 from rfl, dt q3] at efl
        rw [show (3 : Nat) + 0 = 3 from rfl, if_pos q3] at a4
        obtain ⟨σ5, e5, w1, w2, w3, w4, w5, w6⟩ := rsl_run (T := T) (e := 3 + W * T) hn hb (show 2 ≤ W by omega) (show W ≤ 6 by omega) (by omega) (by omega) (by omega) (min W 4) fuelN 0 σ4 (Nat.zero_add _) (by omega) (F4.d hd) (by rw [a4]; rfl) (by rw [a1 _ (by decide), gI_sI, if_neg (by decide), gI_sI, if_neg (by decide), gI_sI, if_neg (by decide), gI_sI, if_neg (by decide), gI_sI, if_neg (by decide), gI_sI, if_pos rfl, nI_0]) (by rw [a1 _ (by decide), gI_sI, if_neg (by decide), gI_sI, if_neg (by decide), gI_sI, if_pos rfl]) (by rw [a1 _ (by decide), gI_sI, if_pos rfl])
        refine ⟨σ5, bd ec (cnd_t hc0 ?_), F4.tr w1, fun z hz => w5 z (by rw [← htx]; exact hz), fun q => ?_⟩
        · dsimp only
          rw [g1]
          refine bd efl ?_
          dsimp only
          rw [htx]
          exact e5
        · rw [htx] at q
          obtain ⟨x1, x2, x3, x4, x5⟩ := w6 q
          rw [hW, hT, Nat.add_sub_cancel, Nat.add_sub_cancel]
          exact ⟨w2, w3, x1, x2, x3, fun i hi => (w4 i).trans (a6 q3 i (Nat.zero_le _) hi), fun j hj => x5 j (Nat.zero_le _) hj⟩
      · rw [if_neg q3] at hfl
        rw [hfl] at htx
        rw [show (3 : Nat) + 0 = 3 from rfl, df q3] at efl
        rw [show (3 : Nat) + 0 = 3 from rfl, if_neg q3] at a4
        exact out σ4 (floorB n d (W * T) 3 - 1) (by omega) efl F4 a4
    · have ht : textF n d = 3 := by
        unfold textF
        rw [h0, if_pos rfl, if_pos q1, if_neg q2]
      rw [show figB n d 2 2 6 = false from df (by omega), cond_false, cond_false] at f2
      refine out (sI (sI (sI (sI (sI (sI (sI σ 1228 0) 1231 0) 1228 (nI 1)) 1228 (nI (1 + 1))) 1229 (nI W)) 1228 (nI (2 + 0))) 1230 (-9)) 2 ht ?_ ((F2.tr (FrR.sI (by decide) (by decide))).tr (FrR.sI (by decide) (by decide))) (by rw [gI_sI, if_neg (by decide), gI_sI, if_pos rfl])
      unfold F_X5_readsFloor
      refine bd f1 ?_
      dsimp only
      rw [gW]
      refine bd f2 (cnd_t ?_ ?_)
      · dsimp only
        rw [gI_sI, if_pos rfl]; decide
      · rw [hf0]
        exact rf_false f0 _ _
  · have ht : textF n d = 2 := by
      unfold textF
      rw [h0, if_pos rfl, if_neg q1]
    rw [show figB n d 1 2 6 = false from df (by omega), cond_false, cond_false] at f1
    have f2 : F_X5_figure (nI b) (nI n) (-9) 2 6 (sI (sI (sI (sI (sI σ 1228 0) 1231 0) 1228 (nI 1)) 1228 (nI (1 + 0))) 1229 (-9)) = some (-9, sI (sI (sI (sI (sI (sI σ 1228 0) 1231 0) 1228 (nI 1)) 1228 (nI (1 + 0))) 1229 (-9)) 1228 (nI 1)) := e_figN (lo := 2) (hi := 6) (by rw [gI_sI, if_neg (by decide), gI_sI, if_pos rfl]) (by decide) (by decide) (by decide)
    refine out (sI (sI (sI (sI (sI (sI (sI σ 1228 0) 1231 0) 1228 (nI 1)) 1228 (nI (1 + 0))) 1229 (-9)) 1228 (nI 1)) 1230 (-9)) 1 ht ?_ ((((F1.tr (FrR.sI (by decide) (by decide))).tr (FrR.sI (by decide) (by decide))).tr (FrR.sI (by decide) (by decide))).tr (FrR.sI (by decide) (by decide))) (by rw [gI_sI, if_neg (by decide), gI_sI, if_pos rfl])
    unfold F_X5_readsFloor
    refine bd f1 ?_
    dsimp only
    rw [show gI (sI (sI (sI (sI (sI σ 1228 0) 1231 0) 1228 (nI 1)) 1228 (nI (1 + 0))) 1229 (-9)) 1229 = -9 from by rw [gI_sI, if_pos rfl]]
    refine bd f2 (cnd_t ?_ ?_)
    · dsimp only
      rw [gI_sI, if_pos rfl]; decide
    · rw [hf0]
      exact rf_false f0 _ _
theorem ov0_run {W K c r : Nat} {s : PS} (hK : K ≤ 4) (hP : W * r + c + K ≤ 60) (h1 : gI s 1217 = nI W) (h2 : gI s 1219 = nI K) (h3 : gI s 1220 = nI c) (h4 : gI s 1221 = nI r) (h5 : gI s 1223 = nI 0) : ∀ (m f j : Nat), j + m = K → m < f → L_X5_over f (lN ((2 ^ K - 1) % 2 ^ j * 2 ^ (W * r + c))) (nI j) s = some (lN ((2 ^ K - 1) * 2 ^ (W * r + c)), s) := by
  intro m
  induction m with
  | zero =>
    intro f j hj hf
    obtain ⟨f, rfl⟩ : ∃ g, f = g + 1 := ⟨f - 1, by omega⟩
    have hp : 0 < 2 ^ K := Nat.two_pow_pos K
    rw [L_X5_over, show j = K from by omega, Nat.mod_eq_of_lt (by omega)]
    exact cnd_t (by rw [h2, cGe_nI (by omega) (by omega)]; exact dt (Nat.le_refl _)) rfl
  | succ m ih =>
    intro f j hj hf
    obtain ⟨f, rfl⟩ : ∃ g, f = g + 1 := ⟨f - 1, by omega⟩
    have hs := ov_s K (by omega) 0 (by decide) j (by omega) (by omega) (Nat.two_pow_pos K)
    rw [Nat.xor_zero, Nat.zero_testBit, cond_false] at hs
    rw [L_X5_over]
    refine cnd_f (by rw [h2, cGe_nI (by omega) (by omega)]; exact df (by omega)) ?_
    rw [h5]
    refine bd (a := bI false) (σ := s) ?_ (cnd_t (ef rfl) (bd (a := nI (W * r + c + j)) (σ := s) ?_ ?_))
    · unfold F_X5_isIn
      rw [bits_g 0 (by decide) j (by omega), Nat.zero_testBit]; rfl
    · unfold F_X5_placeOf
      dsimp only
      rw [h1, h3, h4, pk_mul, nI_add, nI_add]
    · show L_X5_over f (lN ((2 ^ K - 1) % 2 ^ j * 2 ^ (W * r + c)) ||| lshl (lN 1) (nI (W * r + c + j))) (nI j + 1) s = _
      rw [lshl_n _ (by omega), fb_orL, nI_1, Nat.one_mul, Nat.add_comm (W * r + c) j, Nat.pow_add 2 j (W * r + c), ← or_mul, hs]
      exact ih f (j + 1) (by omega) (by omega)
theorem e_ov0 {W K c r : Nat} {s : PS} (hK : K ≤ 4) (hP : W * r + c + K ≤ 60) (h1 : gI s 1217 = nI W) (h2 : gI s 1219 = nI K) (h3 : gI s 1220 = nI c) (h4 : gI s 1221 = nI r) (h5 : gI s 1223 = nI 0) : F_X5_over s = some (lN ((2 ^ K - 1) * 2 ^ (W * r + c)), s) := by
  have e := ov0_run hK hP h1 h2 h3 h4 h5 K fuelN 0 (Nat.zero_add _) (by unfold fuelN; omega)
  rw [nI_0, Nat.pow_zero, Nat.mod_one, Nat.zero_mul] at e
  exact e
theorem sl1 {W T : Nat} (h36 : W * T ≤ 36) : ∀ (m f x : Nat) (σ : PS), x + m = W * T → gI σ 1217 = nI W → gI σ 1218 = nI T → ∃ σ', L_X5_sea (f + m + 1) 122 (nI x) σ = L_X5_sea f 159 (nI 0) σ' ∧ (∀ z, gI σ' z = gI σ z) ∧ (∀ z, gL σ' z = gL σ z) ∧ (∀ a, a ≠ 20 → ∀ y, gA σ' a y = gA σ a y) ∧ (∀ y, y < x → gA σ' 20 y = gA σ 20 y) ∧ ∀ y, x ≤ y → y < W * T → gA σ' 20 y = gA σ 23 y := by
  intro m
  induction m with
  | zero =>
    intro f x σ hx s1 s2
    refine ⟨σ, ?_, fun _ => rfl, fun _ => rfl, fun _ _ _ => rfl, fun _ _ => rfl, fun y h1 h2 => by omega⟩
    rw [show f + 0 + 1 = f + 1 from rfl, L_X5_sea]
    refine cnd_t (by decide) (cnd_t ?_ ?_)
    · rw [s1, s2, pk_mul, cGe_nI (by omega) (by omega)]; exact dt (by omega)
    · rw [nI_0]
  | succ m ih =>
    intro f x σ hx s1 s2
    obtain ⟨σ', e, q1, q2, q3, q4, q5⟩ := ih f (x + 1) (sA σ 20 x (gA σ 23 x)) (by omega) s1 s2
    refine ⟨σ', ?_, q1, q2, fun a ha y => ?_, fun y hy => ?_, fun y h1 h2 => ?_⟩
    · rw [← e, show f + (m + 1) + 1 = (f + m + 1) + 1 from rfl, L_X5_sea]
      refine cnd_t (by decide) (cnd_f ?_ (cnd_t (vin_of_lt (by omega) (by decide)) (cnd_t (vin_of_lt (by omega) (by decide)) ?_)))
      · rw [s1, s2, pk_mul, cGe_nI (by omega) (by omega)]; exact df (by omega)
      · rw [tn (by omega), nI_1]
    · rw [q3 a ha, gA_sA, if_neg ha]
    · rw [q4 y (by omega), gA_sA, if_pos rfl, if_neg (by omega)]
    · by_cases h3 : y = x
      · rw [q4 y (by omega), gA_sA, if_pos rfl, if_pos h3, h3]
      · rw [q5 y (by omega) h2, gA_sA, if_neg (by decide)]
theorem sl2 {W K c r : Nat} (hK : K ≤ 4) (hP : W * r + c + K ≤ 60) : ∀ (m f x : Nat) (σ : PS), x + m = K → m < f → gI σ 1217 = nI W → gI σ 1219 = nI K → gI σ 1220 = nI c → gI σ 1221 = nI r → ∃ σ', L_X5_sea f 159 (nI x) σ = some (nI K, sI (sI (sL (sI (sI σ' 1222 0) 1223 0) 1224 (lN ((2 ^ K - 1) * 2 ^ (W * r + c)))) 1241 0) 1216 (nI 0)) ∧ (∀ z, gI σ' z = gI σ z) ∧ (∀ z, gL σ' z = gL σ z) ∧ (∀ a, a ≠ 21 → a ≠ 22 → ∀ y, gA σ' a y = gA σ a y) ∧ (∀ y, y < x → gA σ' 21 y = gA σ 21 y ∧ gA σ' 22 y = gA σ 22 y) ∧ ∀ y, x ≤ y → y < K → gA σ' 21 y = gA σ 24 y ∧ gA σ' 22 y = gA σ 25 y := by
  intro m
  induction m with
  | zero =>
    intro f x σ hx hf s1 s2 s3 s4
    obtain ⟨f, rfl⟩ : ∃ g, f = g + 1 := ⟨f - 1, by omega⟩
    refine ⟨σ, ?_, fun _ => rfl, fun _ => rfl, fun _ _ _ _ => rfl, fun _ _ => ⟨rfl, rfl⟩, fun y h1 h2 => by omega⟩
    have g : ∀ z, z ≠ 1223 → z ≠ 1222 → gI (sI (sI σ 1222 0) 1223 0) z = gI σ z := fun z z1 z2 => by rw [gI_sI, if_neg z1, gI_sI, if_neg z2]
    rw [L_X5_sea]
    refine cnd_f (by decide) (cnd_t (by decide) (cnd_t ?_ (bd (e_ov0 (W := W) (K := K) (c := c) (r := r) hK hP ((g _ (by decide) (by decide)).trans s1) ((g _ (by decide) (by decide)).trans s2) ((g _ (by decide) (by decide)).trans s3) ((g _ (by decide) (by decide)).trans s4) (by rw [gI_sI, if_pos rfl, nI_0])) ?_)))
    · rw [s2, cGe_nI (by omega) (by omega)]; exact dt (by omega)
    · refine bd (e_refused _ _) ?_
      dsimp only
      rw [gI_sI, if_neg (by decide), gI_sL, g _ (by decide) (by decide), s2]
  | succ m ih =>
    intro f x σ hx hf s1 s2 s3 s4
    obtain ⟨f, rfl⟩ : ∃ g, f = g + 1 := ⟨f - 1, by omega⟩
    obtain ⟨σ', e, q1, q2, q3, q4, q5⟩ := ih f (x + 1) (sA (sA σ 21 x (gA σ 24 x)) 22 x (gA (sA σ 21 x (gA σ 24 x)) 25 x)) (by omega) (by omega) s1 s2 s3 s4
    have v4 : vin (nI x) 4 = true := vin_of_lt (by omega) (by decide)
    refine ⟨σ', ?_, q1, q2, fun a a1 a2 y => ?_, fun y hy => ?_, fun y h1 h2 => ?_⟩
    · rw [L_X5_sea]
      refine cnd_f (by decide) (cnd_t (by decide) (cnd_f ?_ (cnd_t v4 (cnd_t v4 (cnd_t v4 (cnd_t v4 ?_))))))
      · rw [s2, cGe_nI (by omega) (by omega)]; exact df (by omega)
      · rw [tn (by omega), nI_1]
        exact e
    · rw [q3 a a1 a2, gA_sA, if_neg a2, gA_sA, if_neg a1]
    · obtain ⟨z1, z2⟩ := q4 y (by omega)
      rw [z1, z2, gA_sA, if_neg (by decide), gA_sA, if_pos rfl, if_neg (by omega), gA_sA, if_pos rfl, if_neg (by omega), gA_sA, if_neg (by decide)]
      exact ⟨rfl, rfl⟩
    · by_cases h3 : y = x
      · obtain ⟨z1, z2⟩ := q4 y (by omega)
        rw [z1, z2, gA_sA, if_neg (by decide), gA_sA, if_pos rfl, if_pos h3, gA_sA, if_pos rfl, if_pos h3, gA_sA, if_neg (by decide), h3]
        exact ⟨rfl, rfl⟩
      · obtain ⟨z1, z2⟩ := q5 y (by omega) h2
        rw [z1, z2, gA_sA, if_neg (by decide), gA_sA, if_neg (by decide), gA_sA, if_neg (by decide), gA_sA, if_neg (by decide)]
        exact ⟨rfl, rfl⟩
theorem RM_frR {A : AS} {σ σ' : PS} (h : FrR σ σ') (hM : RM A σ) : RM A σ' := by
  obtain ⟨h1, h2, h3⟩ := h
  obtain ⟨⟨a1, a2, a3, a4, a5, a6, a7, a8⟩, ⟨b1, b2⟩, ⟨c1, c2⟩, d1, d2, d3⟩ := hM
  refine ⟨⟨?_, ?_, ?_, ?_, ?_, ?_, ?_, ?_⟩, ⟨fun i hi => ?_, fun k hk => ?_⟩, ⟨?_, fun i hi => ?_⟩, ?_, ?_, fun k hk => ?_⟩
  · rw [h1 _ (by omega)]; exact a1
  · rw [h1 _ (by omega)]; exact a2
  · rw [h1 _ (by omega)]; exact a3
  · rw [h1 _ (by omega)]; exact a4
  · rw [h1 _ (by omega)]; exact a5
  · rw [h1 _ (by omega)]; exact a6
  · rw [h1 _ (by omega)]; exact a7
  · rw [h2]; exact a8
  · rw [h3 _ (by omega)]; exact b1 i hi
  · rw [h3 _ (by omega), h3 _ (by omega)]; exact b2 k hk
  · rw [h1 _ (by omega)]; exact c1
  · rw [h3 _ (by omega), h3 _ (by omega), h3 _ (by omega)]; exact c2 i hi
  · rw [h1 _ (by omega)]; exact d1
  · rw [h1 _ (by omega)]; exact d2
  · obtain ⟨e1, e2, e3⟩ := d3 k hk
    exact ⟨by rw [h3 _ (by omega)]; exact e1, by rw [h3 _ (by omega)]; exact e2, fun i hi => by rw [h3 _ (by omega)]; exact e3 i hi⟩
theorem eqC_frR {σ σ' : PS} (h : FrR σ σ') : eqC σ σ' := ⟨fun z hz => h.1 z (by omega), fun z _ => h.2.1 z, fun a ha i => h.2.2 a (by omega) i⟩
theorem e_seaM {A : AS} {n : Nat} {d : Nat → Int32} {W T K : Nat} {σ : PS} (h : Wh n d W T K) (hM : RM A σ) (hR : Rd n d W T K σ) : ∃ σ', L_X5_sea fuelN 122 (0) (sI (sI (sI (sI (sI σ 1217 (nI W)) 1218 (nI T)) 1219 (nI K)) 1220 (nI (dgN n d (3 + W * T + 3 * K + 1) - 1))) 1221 (nI (dgN n d (3 + W * T + 3 * K + 2) - 1))) = some (nI K, σ') ∧ RM (seaA A n d W T K) σ' ∧ eqC σ σ' := by
  obtain ⟨⟨w1, w2, w3, w4, w5, w6, w7⟩, ⟨g1, g2⟩, hh, hl, t1, t2, t3, t4, t5⟩ := h
  obtain ⟨r1, r2, r3, r4, r5, r6, r7⟩ := hR
  have hl2 := cell_lt (W := W) (c := dgN n d (3 + W * T + 3 * K + 1) - 1 + K - 1) (r := dgN n d (3 + W * T + 3 * K + 2) - 1) (T := T) (by omega) t4
  obtain ⟨f0, hf0⟩ : ∃ f0, fuelN = (f0 + W * T) + 1 := ⟨fuelN - W * T - 1, by unfold fuelN; omega⟩
  have hfb : 100 ≤ f0 := by unfold fuelN at hf0; omega
  obtain ⟨σ1, e1, a1, a2, a3, a4, a5⟩ := sl1 (W := W) (T := T) w7 (W * T) f0 0 (sI (sI (sI (sI (sI σ 1217 (nI W)) 1218 (nI T)) 1219 (nI K)) 1220 (nI (dgN n d (3 + W * T + 3 * K + 1) - 1))) 1221 (nI (dgN n d (3 + W * T + 3 * K + 2) - 1))) (Nat.zero_add _) (by rw [gI_sI, if_neg (by decide), gI_sI, if_neg (by decide), gI_sI, if_neg (by decide), gI_sI, if_neg (by decide), gI_sI, if_pos rfl]) (by rw [gI_sI, if_neg (by decide), gI_sI, if_neg (by decide), gI_sI, if_neg (by decide), gI_sI, if_pos rfl])
  have hI : ∀ z, gI σ1 z = if z = 1221 then nI (dgN n d (3 + W * T + 3 * K + 2) - 1) else if z = 1220 then nI (dgN n d (3 + W * T + 3 * K + 1) - 1) else if z = 1219 then nI K else if z = 1218 then nI T else if z = 1217 then nI W else gI σ z := fun z => by rw [a1, gI_sI, gI_sI, gI_sI, gI_sI, gI_sI]
  obtain ⟨σ2, e2, b1, b2, b3, b4, b5⟩ := sl2 (W := W) (K := K) (c := dgN n d (3 + W * T + 3 * K + 1) - 1) (r := dgN n d (3 + W * T + 3 * K + 2) - 1) w6 (by omega) K f0 0 σ1 (Nat.zero_add _) (by omega) (by rw [hI]; rfl) (by rw [hI]; rfl) (by rw [hI]; rfl) (by rw [hI]; rfl)
  refine ⟨sI (sI (sL (sI (sI σ2 1222 0) 1223 0) 1224 (lN ((2 ^ K - 1) * 2 ^ (W * (dgN n d (3 + W * T + 3 * K + 2) - 1) + (dgN n d (3 + W * T + 3 * K + 1) - 1))))) 1241 0) 1216 (nI 0), ?_, ?_, ⟨fun z hz => ?_, fun z hz => ?_, fun a ha y => ?_⟩⟩
  · rw [hf0, ← nI_0]
    exact e1.trans e2
  · have hG : ∀ z, z ≠ 1216 → z ≠ 1241 → z ≠ 1223 → z ≠ 1222 → gI (sI (sI (sL (sI (sI σ2 1222 0) 1223 0) 1224 (lN ((2 ^ K - 1) * 2 ^ (W * (dgN n d (3 + W * T + 3 * K + 2) - 1) + (dgN n d (3 + W * T + 3 * K + 1) - 1))))) 1241 0) 1216 (nI 0)) z = if z = 1221 then nI (dgN n d (3 + W * T + 3 * K + 2) - 1) else if z = 1220 then nI (dgN n d (3 + W * T + 3 * K + 1) - 1) else if z = 1219 then nI K else if z = 1218 then nI T else if z = 1217 then nI W else gI σ z := fun z z1 z2 z3 z4 => by
      rw [gI_sI, if_neg z1, gI_sI, if_neg z2, gI_sL, gI_sI, if_neg z3, gI_sI, if_neg z4, b1, hI]
    have hA : ∀ a y, a ≠ 20 → a ≠ 21 → a ≠ 22 → gA (sI (sI (sL (sI (sI σ2 1222 0) 1223 0) 1224 (lN ((2 ^ K - 1) * 2 ^ (W * (dgN n d (3 + W * T + 3 * K + 2) - 1) + (dgN n d (3 + W * T + 3 * K + 1) - 1))))) 1241 0) 1216 (nI 0)) a y = gA σ a y := fun a y h1 h2 h3 => by
      rw [gA_sI, gA_sI, gA_sL, gA_sI, gA_sI, b3 a h2 h3, a3 a h1]; rfl
    obtain ⟨⟨c1, c2, c3, c4, c5, c6, c7, c8⟩, ⟨c9, c10⟩, ⟨c11, c12⟩, c13, c14, c15⟩ := hM
    refine ⟨⟨?_, ?_, ?_, ?_, ?_, ?_, ?_, ?_⟩, ⟨fun i hi => ?_, fun k hk => ?_⟩, ⟨?_, fun i hi => absurd hi (Nat.not_lt_zero i)⟩, ?_, ?_, fun k hk => ⟨?_, ?_, fun i hi => ?_⟩⟩
    · rw [hG _ (by decide) (by decide) (by decide) (by decide)]; rfl
    · rw [hG _ (by decide) (by decide) (by decide) (by decide)]; rfl
    · rw [hG _ (by decide) (by decide) (by decide) (by decide)]; rfl
    · rw [hG _ (by decide) (by decide) (by decide) (by decide)]; rfl
    · rw [hG _ (by decide) (by decide) (by decide) (by decide)]; rfl
    · rw [gI_sI, if_neg (by decide), gI_sI, if_neg (by decide), gI_sL, gI_sI, if_neg (by decide), gI_sI, if_pos rfl]; rfl
    · rw [gI_sI, if_neg (by decide), gI_sI, if_neg (by decide), gI_sL, gI_sI, if_pos rfl]; rfl
    · rw [gL_sI, gL_sI, gL_sL, if_pos rfl]; rfl
    · have hi : i < W * T := hi
      rw [gA_sI, gA_sI, gA_sL, gA_sI, gA_sI, b3 20 (by decide) (by decide), a5 i (Nat.zero_le _) hi]
      exact (show gA _ 23 i = gA σ 23 i from rfl).trans (r6 i hi)
    · have hk : k < K := hk
      obtain ⟨z1, z2⟩ := b5 k (Nat.zero_le _) hk
      rw [gA_sI, gA_sI, gA_sL, gA_sI, gA_sI, z1, gA_sI, gA_sI, gA_sL, gA_sI, gA_sI, z2, a3 24 (by decide), a3 25 (by decide)]
      exact r7 k hk
    · rw [gI_sI, if_neg (by decide), gI_sI, if_pos rfl]; rfl
    · rw [hG _ (by decide) (by decide) (by decide) (by decide), if_neg (by decide), if_neg (by decide), if_neg (by decide), if_neg (by decide), if_neg (by decide)]; exact c13
    · rw [gI_sI, if_pos rfl]; rfl
    · rw [hA _ _ (by decide) (by decide) (by decide)]; exact (c15 k hk).1
    · rw [hA _ _ (by decide) (by decide) (by decide)]; exact (c15 k hk).2.1
    · rw [hA _ _ (by decide) (by decide) (by decide)]; exact (c15 k hk).2.2 i hi
  · rw [gI_sI, if_neg (by omega), gI_sI, if_neg (by omega), gI_sL, gI_sI, if_neg (by omega), gI_sI, if_neg (by omega), b1, hI, if_neg (by omega), if_neg (by omega), if_neg (by omega), if_neg (by omega), if_neg (by omega)]
  · rw [gL_sI, gL_sI, gL_sL, if_neg (by omega), gL_sI, gL_sI, b2, a2]; rfl
  · rw [gA_sI, gA_sI, gA_sL, gA_sI, gA_sI, b3 a (by omega) (by omega), a3 a (by omega)]; rfl
theorem tail_b {n : Nat} {d : Nat → Int32} {W T p k : Nat} : tailF n d W T p k ≤ p + 4 := by
  unfold tailF
  split
  · omega
  · split
    · omega
    · split
      · omega
      · split
        · omega
        · split <;> omega
theorem look_b {n : Nat} {d : Nat → Int32} {W T e : Nat} : ∀ m k, lookF n d W T e m k ≤ e + 3 * (k + m) + 4 := by
  intro m
  induction m with
  | zero =>
    intro k
    rw [lookF]
    split
    · have := tail_b (n := n) (d := d) (W := W) (T := T) (p := e + 3 * k) (k := k)
      omega
    · omega
  | succ m ih =>
    intro k
    rw [lookF]
    split
    · have := tail_b (n := n) (d := d) (W := W) (T := T) (p := e + 3 * k) (k := k)
      omega
    · split
      · split
        · omega
        · split
          · omega
          · have := ih (k + 1)
            omega
      · omega
theorem floor_b {n : Nat} {d : Nat → Int32} {r : Nat} : ∀ m x, floorF n d r m x ≤ r + x + m := by
  intro m
  induction m with
  | zero => intro x; rw [floorF]; omega
  | succ m ih =>
    intro x
    rw [floorF]
    split
    · omega
    · have := ih (x + 1)
      omega
theorem text_b {n z : Nat} {d : Nat → Int32} (hn : n ≤ 60) (h : textF n d = z + 1) : z < 1000 := by
  unfold textF at h
  split at h
  · split at h
    · split at h
      · rename_i z0 z1 z2
        have h36 : (dgN n d 1 - 1) * (dgN n d 2 - 1) ≤ 36 := Nat.le_trans (Nat.mul_le_mul (show dgN n d 1 - 1 ≤ 6 by omega) (show dgN n d 2 - 1 ≤ 6 by omega)) (by decide)
        have a1 := floor_b (n := n) (d := d) (r := lookF n d (dgN n d 1 - 1) (dgN n d 2 - 1) (3 + (dgN n d 1 - 1) * (dgN n d 2 - 1)) (min (dgN n d 1 - 1) 4) 0) ((dgN n d 1 - 1) * (dgN n d 2 - 1)) 3
        have a2 := look_b (n := n) (d := d) (W := dgN n d 1 - 1) (T := dgN n d 2 - 1) (e := 3 + (dgN n d 1 - 1) * (dgN n d 2 - 1)) (min (dgN n d 1 - 1) 4) 0
        omega
      · omega
    · omega
  · omega
theorem pr_sea (σ : PS) (h : Rel σ) (p0 p1 p2 p3 : Int32) : Pair (F_X4_sea p0 p1 p2 p3) (F_X5_sea p0 p1 p2 p3) σ := pair_of h fun A hW => by
  have hb := wf_b hW
  cases hv0 : vin p0 4 with
  | false =>
    refine pr_ref (v := -1) hW (fun σ hC => ?_) (fun σ hM => ?_)
    · unfold F_X4_sea
      exact bd (e_sheetOf_n _ hv0) rfl
    · unfold F_X5_sea
      exact bd (e_noSheet p0 σ) (cnd_f (et (by rw [hv0]; rfl)) (bd rfl rfl))
  | true =>
  obtain ⟨k, hk, rfl⟩ := vin_ex hv0 (by decide)
  have hz := hW.2.2.2 k hk
  have en : (!vin (nI k) 4) = false := by rw [hv0]; rfl
  cases h1 : inR p1 0 2 with
  | false =>
    refine pr_ref (v := -2) hW (fun σ hC => ?_) (fun σ hM => ?_)
    · unfold F_X4_sea
      exact bd (e_sheetOf _ hk) (cnd_t (isSh_k hk) (bd (e_isLane p1 _) (cnd_f (nf h1) rfl)))
    · unfold F_X5_sea
      exact bd (e_noSheet _ σ) (cnd_t (ef en) (bd (e_lane02 p1 σ) (cnd_f (nf h1) (bd rfl rfl))))
  | true =>
  obtain ⟨l, hl, rfl⟩ := inR_ex h1 (by decide)
  refine pr_src hW hk hl (p := p2) (q := p3) (fb := fun s3 => (F_X2_firstFault 18 60 p3 s3).bind fun q4 => bif cEq q4.1 (-1) then (F_X1_beginBy 18 60 p3 q4.2).bind fun q5 => (F_X0_keep 0 q5.2).bind fun q6 => (F_X1_lookers q6.2).bind fun q7 => some (q7.1, q7.2) else some (-100 - q4.1, q4.2)) (gb := fun s5 => (F_X5_readsSea (60 * nI k + p2) p3 s5).bind fun q6 => bif cNe q6.1 0 then L_X5_sea fuelN 122 (0) (sI (sI (sI (sI (sI q6.2 1217 (gI q6.2 1229)) 1218 (gI (sI q6.2 1217 (gI q6.2 1229)) 1230)) 1219 (gI (sI (sI q6.2 1217 (gI q6.2 1229)) 1218 (gI (sI q6.2 1217 (gI q6.2 1229)) 1230)) 1231)) 1220 (gI (sI (sI (sI q6.2 1217 (gI q6.2 1229)) 1218 (gI (sI q6.2 1217 (gI q6.2 1229)) 1230)) 1219 (gI (sI (sI q6.2 1217 (gI q6.2 1229)) 1218 (gI (sI q6.2 1217 (gI q6.2 1229)) 1230)) 1231)) 1232)) 1221 (gI (sI (sI (sI (sI q6.2 1217 (gI q6.2 1229)) 1218 (gI (sI q6.2 1217 (gI q6.2 1229)) 1230)) 1219 (gI (sI (sI q6.2 1217 (gI q6.2 1229)) 1218 (gI (sI q6.2 1217 (gI q6.2 1229)) 1230)) 1231)) 1220 (gI (sI (sI (sI q6.2 1217 (gI q6.2 1229)) 1218 (gI (sI q6.2 1217 (gI q6.2 1229)) 1230)) 1219 (gI (sI (sI q6.2 1217 (gI q6.2 1229)) 1218 (gI (sI q6.2 1217 (gI q6.2 1229)) 1230)) 1231)) 1232)) 1233)) else (F_X5_refused (-100 - gI q6.2 1228) q6.2).bind fun q7 => some (q7.1, q7.2)) (fun σ hC => ?_) (fun σ hM => ?_) (fun i n e1 e2 hz2 => ?_)
  · unfold F_X4_sea
    exact bd (e_sheetOf _ hk) (cnd_t (isSh_k hk) (bd (e_isLane _ _) (cnd_t (nt h1) rfl)))
  · unfold F_X5_sea
    exact bd (e_noSheet _ σ) (cnd_t (ef en) (bd (e_lane02 _ σ) (cnd_t (nt h1) rfl)))
  · subst e1
    subst e2
    have eb : 60 * nI k + nI i = nI (60 * k + i) := by rw [show (60 : Int32) = nI 60 from rfl, pk_mul, nI_add]
    have hd32 : ∀ σ, RM A σ → ∀ y, y < n → gA σ 32 (60 * k + i + y) = aX A k (i + y) := fun σ hM y hy => by rw [Nat.add_assoc]; exact (hM.2.2.2.2.2 k hk).2.2 (i + y) (by omega)
    cases ht : textF n (fun x => aX A k (i + x)) with
    | zero =>
      have hWh := text_ok ht
      refine ⟨nI (lookK n (fun x => aX A k (i + x)) (3 + (dgN n (fun x => aX A k (i + x)) 1 - 1) * (dgN n (fun x => aX A k (i + x)) 2 - 1)) (min (dgN n (fun x => aX A k (i + x)) 1 - 1) 4) 0), _, WF_sea hW hWh, fun σ hC hd => ?_, fun σ hM => ?_⟩
      · obtain ⟨σ', q1, q2, q3⟩ := e_begin (by omega) hWh hC hd
        refine ⟨σ', ?_, q2, q3⟩
        have e := textC (d := fun x => aX A k (i + x)) (show n ≤ 60 by omega) hd
        rw [ht] at e
        exact bd e (cnd_t (show cEq (dv 0) (-1) = true from by decide) q1)
      · obtain ⟨σ1, q1, q2, q3, q4⟩ := rsea (d := fun x => aX A k (i + x)) (show n ≤ 60 by omega) (b := 60 * k + i) (by omega) (hd32 σ hM)
        have hR := q4 ht
        rw [ht] at q1
        obtain ⟨σ2, x1, x2, x3⟩ := e_seaM hWh (RM_frR q2 hM) hR
        refine ⟨σ2, ?_, x2, (eqC_frR q2).tr x3⟩
        rw [eb]
        refine bd q1 (cnd_t (nt rfl) ?_)
        obtain ⟨r1, r2, r3, r4, r5, r6, r7⟩ := hR
        dsimp only
        rw [r1, show ∀ v, gI (sI σ1 1217 v) 1230 = gI σ1 1230 from fun v => by rw [gI_sI, if_neg (by decide)], r2, show ∀ v w, gI (sI (sI σ1 1217 v) 1218 w) 1231 = gI σ1 1231 from fun v w => by rw [gI_sI, if_neg (by decide), gI_sI, if_neg (by decide)], r3, show ∀ v w x, gI (sI (sI (sI σ1 1217 v) 1218 w) 1219 x) 1232 = gI σ1 1232 from fun v w x => by rw [gI_sI, if_neg (by decide), gI_sI, if_neg (by decide), gI_sI, if_neg (by decide)], r4, show ∀ v w x y, gI (sI (sI (sI (sI σ1 1217 v) 1218 w) 1219 x) 1220 y) 1233 = gI σ1 1233 from fun v w x y => by rw [gI_sI, if_neg (by decide), gI_sI, if_neg (by decide), gI_sI, if_neg (by decide), gI_sI, if_neg (by decide)], r5]
        exact x1
    | succ z =>
      refine ⟨-100 - nI z, setS A 8 0, WF_f hW (by decide), fun σ hC hd => ⟨σ, ?_, hC, eqM.rf⟩, fun σ hM => ?_⟩
      · have e := textC (d := fun x => aX A k (i + x)) (show n ≤ 60 by omega) hd
        rw [ht, dv_s] at e
        have hzb : z < 1000 := text_b (by omega) ht
        refine bd e (cnd_f ?_ rfl)
        unfold cEq
        rw [decide_eq_false]
        intro q
        have := congrArg Int32.toInt q
        rw [show (-1 : Int32).toInt = -1 from by decide] at this
        have this : (nI z).toInt = -1 := this
        rw [nI_toInt (by omega)] at this
        omega
      · obtain ⟨σ1, q1, q2, q3, q4⟩ := rsea (d := fun x => aX A k (i + x)) (show n ≤ 60 by omega) (b := 60 * k + i) (by omega) (hd32 σ hM)
        have hR := q3 z ht
        rw [ht] at q1
        refine ⟨sI σ1 1216 (nI 0), ?_, RM_f 0 (RM_frR q2 hM), (eqC_frR q2).tr (eqC_sI (by decide))⟩
        rw [eb]
        refine bd q1 (cnd_f (nf (show decide (z + 1 = 0) = false from df (by omega))) ?_)
        dsimp only
        rw [hR]
        exact bd rfl rfl
