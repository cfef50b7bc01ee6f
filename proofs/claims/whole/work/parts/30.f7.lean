noncomputable def F_X5_farAt (p0 : Int32) (p1 : Int32) (σ : PS) : Option (Int32 × PS) :=
  (F_X5_isPlace p0 p1 σ).bind fun q1 =>
  let v1 := q1.1
  let s1 := q1.2
  bif cEq v1 0 then (
    some ((-9), s1)
  ) else (
    bif vin (((gI s1 1217) * p1) + p0) 36 then
    some ((gA s1 26 (Int32.toNatClampNeg (((gI s1 1217) * p1) + p0))), s1)
    else none
  )
set_option maxRecDepth 50000 in
theorem m_X5_farAt (p0 : Int32) (p1 : Int32) (σ : PS) {v : Int32} {σ' : PS} (h : F_X5_farAt p0 p1 σ = some (v, σ')) : PR 159 [.ref 19, .int p0, .int p1] σ (some (.int v)) σ' := by
  refine PR.enter (L := [some (.ref 19), some (.int p0), some (.int p1)]) uT_159 uD_159 rfl rfl ?_
  unfold F_X5_farAt at h
  refine RU.blk (C' := (3, [some (.ref 19), some (.int p0), some (.int p1)], [.int p1, .int p0, .ref 19], σ)) 3 rfl ?_
  obtain ⟨⟨v1, s1⟩, hk, h⟩ := Option.bind_eq_some_iff.mp h
  dsimp only at h
  refine RU.call (as := [.ref 19, .int p0, .int p1]) (rest := []) (u := some (.int v1)) (C' := (6, [some (.ref 19), some (.int p0), some (.int p1)], [.int v1], s1)) rfl rfl (m_X5_isPlace p0 p1 σ hk) rfl rfl ?_
  refine RU.blk (C' := (bif cEq v1 0 then 25 else 9, [some (.ref 19), some (.int p0), some (.int p1)], [], s1)) 1 rfl ?_
  rcases cnd_some h with ⟨hc, h⟩ | ⟨hc, h⟩
  · refine RU.tt hc ?_
    refine RU.blk (C' := (27, [some (.ref 19), some (.int p0), some (.int p1)], [.int (-9)], s1)) 1 rfl ?_
    obtain ⟨rfl, rfl⟩ := ret_inj h
    exact RU.ret rfl rfl rfl
  · refine RU.ff hc ?_
    refine RU.blk (C' := (21, [some (.ref 19), some (.int p0), some (.int p1)], [.int (((gI s1 1217) * p1) + p0), .ref 26], s1)) 8 rfl ?_
    obtain ⟨hv, h⟩ := cnd_n h
    refine RU.iald (N := 36) rfl rfl hv ?_
    refine RU.blk (C' := (27, [some (.ref 19), some (.int p0), some (.int p1)], [.int (gA s1 26 (Int32.toNatClampNeg (((gI s1 1217) * p1) + p0)))], s1)) 1 rfl ?_
    obtain ⟨rfl, rfl⟩ := ret_inj h
    exact RU.ret rfl rfl rfl
noncomputable def L_X5_isBeside  : Nat → Int32 → Int32 → Int32 → Int32 → Int32 → PS → Option (Int32 × PS)
  | 0, _, _, _, _, _, _ => none
  | n + 1, x1, x2, x3, x4, x5, σ => 
    bif cGe x5 (4) then (
      bif okb x4 then some (x4, σ) else none
    ) else (
      bif cNe x4 0 then (
        L_X5_isBeside n  x1 x2 x3 (1) (x5 + (1)) σ
      ) else (
        (F_X5_columnBy x5 σ).bind fun q1 =>
        let v1 := q1.1
        let s1 := q1.2
        (F_X5_rowBy x5 s1).bind fun q2 =>
        let v2 := q2.1
        let s2 := q2.2
        (F_X5_farAt (x1 + v1) (x2 + v2) s2).bind fun q3 =>
        let v3 := q3.1
        let s3 := q3.2
        bif cNe v3 x3 then (
          L_X5_isBeside n  x1 x2 x3 (0) (x5 + (1)) s3
        ) else (
          L_X5_isBeside n  x1 x2 x3 (1) (x5 + (1)) s3
        )
      )
    )
set_option maxRecDepth 50000 in
theorem ml_X5_isBeside  (n : Nat) : (∀ (x1 : Int32) (x2 : Int32) (x3 : Int32) (x4 : Int32) (x5 : Int32) (σ : PS) (v : Int32) (σ' : PS), L_X5_isBeside n x1 x2 x3 x4 x5 σ = some (v, σ') → RU ubX5_isBeside 3 69 (6, [some (.ref 19), some (.int x1), some (.int x2), some (.int x3), some (.int x4), some (.int x5)], [], σ) (some (.int v)) σ') := by
  induction n with
  | zero =>
    intro x1 x2 x3 x4 x5 σ v σ' h; exact absurd (show (none : Option (Int32 × PS)) = some (v, σ') from h) (by simp)
  | succ n ih =>
    intro x1 x2 x3 x4 x5 σ v σ' h
    rw [L_X5_isBeside] at h
    refine RU.blk (C' := (bif cGe x5 (4) then 52 else 12, [some (.ref 19), some (.int x1), some (.int x2), some (.int x3), some (.int x4), some (.int x5)], [], σ)) 3 rfl ?_
    rcases cnd_some h with ⟨hc, h⟩ | ⟨hc, h⟩
    · refine RU.tt hc ?_
      refine RU.blk (C' := (54, [some (.ref 19), some (.int x1), some (.int x2), some (.int x3), some (.int x4), some (.int x5)], [.int x4], σ)) 1 rfl ?_
      obtain ⟨hb, h⟩ := cnd_n h
      obtain ⟨rfl, rfl⟩ := ret_inj h
      exact RU.ret rfl (pret_b hb) rfl
    · refine RU.ff hc ?_
      refine RU.blk (C' := (bif cNe x4 0 then 39 else 17, [some (.ref 19), some (.int x1), some (.int x2), some (.int x3), some (.int x4), some (.int x5)], [], σ)) 2 rfl ?_
      rcases cnd_some h with ⟨hc, h⟩ | ⟨hc, h⟩
      · refine RU.tt hc ?_
        refine RU.blk (C' := (6, [some (.ref 19), some (.int x1), some (.int x2), some (.int x3), some (.int (1)), some (.int (x5 + (1)))], [], σ)) 5 rfl ?_
        exact ih x1 x2 x3 (1) (x5 + (1)) _ _ _ h
      · refine RU.ff hc ?_
        refine RU.blk (C' := (21, [some (.ref 19), some (.int x1), some (.int x2), some (.int x3), some (.int x4), some (.int x5)], [.int x5, .int x1, .ref 19], σ)) 3 rfl ?_
        obtain ⟨⟨v1, s1⟩, hk, h⟩ := Option.bind_eq_some_iff.mp h
        dsimp only at h
        refine RU.call (as := [.int x5]) (rest := [.int x1, .ref 19]) (u := some (.int v1)) (C' := (24, [some (.ref 19), some (.int x1), some (.int x2), some (.int x3), some (.int x4), some (.int x5)], [.int v1, .int x1, .ref 19], s1)) rfl rfl (m_X5_columnBy x5 σ hk) rfl rfl ?_
        refine RU.blk (C' := (28, [some (.ref 19), some (.int x1), some (.int x2), some (.int x3), some (.int x4), some (.int x5)], [.int x5, .int x2, .int (x1 + v1), .ref 19], s1)) 3 rfl ?_
        obtain ⟨⟨v2, s2⟩, hk, h⟩ := Option.bind_eq_some_iff.mp h
        dsimp only at h
        refine RU.call (as := [.int x5]) (rest := [.int x2, .int (x1 + v1), .ref 19]) (u := some (.int v2)) (C' := (31, [some (.ref 19), some (.int x1), some (.int x2), some (.int x3), some (.int x4), some (.int x5)], [.int v2, .int x2, .int (x1 + v1), .ref 19], s2)) rfl rfl (m_X5_rowBy x5 s1 hk) rfl rfl ?_
        refine RU.blk (C' := (32, [some (.ref 19), some (.int x1), some (.int x2), some (.int x3), some (.int x4), some (.int x5)], [.int (x2 + v2), .int (x1 + v1), .ref 19], s2)) 1 rfl ?_
        obtain ⟨⟨v3, s3⟩, hk, h⟩ := Option.bind_eq_some_iff.mp h
        dsimp only at h
        refine RU.call (as := [.ref 19, .int (x1 + v1), .int (x2 + v2)]) (rest := []) (u := some (.int v3)) (C' := (35, [some (.ref 19), some (.int x1), some (.int x2), some (.int x3), some (.int x4), some (.int x5)], [.int v3], s3)) rfl rfl (m_X5_farAt (x1 + v1) (x2 + v2) s2 hk) rfl rfl ?_
        refine RU.blk (C' := (bif cNe v3 x3 then 43 else 39, [some (.ref 19), some (.int x1), some (.int x2), some (.int x3), some (.int x4), some (.int x5)], [], s3)) 2 rfl ?_
        rcases cnd_some h with ⟨hc, h⟩ | ⟨hc, h⟩
        · refine RU.tt hc ?_
          refine RU.blk (C' := (6, [some (.ref 19), some (.int x1), some (.int x2), some (.int x3), some (.int (0)), some (.int (x5 + (1)))], [], s3)) 4 rfl ?_
          exact ih x1 x2 x3 (0) (x5 + (1)) _ _ _ h
        · refine RU.ff hc ?_
          refine RU.blk (C' := (6, [some (.ref 19), some (.int x1), some (.int x2), some (.int x3), some (.int (1)), some (.int (x5 + (1)))], [], s3)) 5 rfl ?_
          exact ih x1 x2 x3 (1) (x5 + (1)) _ _ _ h
noncomputable def F_X5_isBeside (p0 : Int32) (p1 : Int32) (p2 : Int32) (σ : PS) : Option (Int32 × PS) :=
  L_X5_isBeside fuelN  p0 p1 p2 (0) (0) σ
set_option maxRecDepth 50000 in
theorem m_X5_isBeside (p0 : Int32) (p1 : Int32) (p2 : Int32) (σ : PS) {v : Int32} {σ' : PS} (h : F_X5_isBeside p0 p1 p2 σ = some (v, σ')) : PR 160 [.ref 19, .int p0, .int p1, .int p2] σ (some (.int v)) σ' := by
  refine PR.enter (L := [some (.ref 19), some (.int p0), some (.int p1), some (.int p2), none, none]) uT_160 uD_160 rfl rfl ?_
  unfold F_X5_isBeside at h
  refine RU.blk (C' := (6, [some (.ref 19), some (.int p0), some (.int p1), some (.int p2), some (.int (0)), some (.int (0))], [], σ)) 4 rfl ?_
  exact (ml_X5_isBeside fuelN) p0 p1 p2 (0) (0) _ _ _ h
noncomputable def L_X5_measures  : Nat → Nat → Int32 → Int32 → Int32 → Int32 → PS → Option (Unit × PS)
  | 0, _, _, _, _, _, _ => none
  | n + 1, hd, x1, x2, x3, x4, σ => 
    bif Nat.beq hd 2 then (
      bif cGe x2 (36) then (
        some ((), σ)
      ) else (
        L_X5_measures n  10 x1 x2 (0) 0 σ
      )
    ) else
    bif Nat.beq hd 10 then (
      bif cGe x3 (gI σ 1218) then (
        L_X5_measures n  2 x1 (x2 + (1)) 0 0 σ
      ) else (
        L_X5_measures n  21 x1 x2 x3 (0) σ
      )
    ) else
    bif Nat.beq hd 21 then (
      bif cGt x4 ((gI σ 1217) - (gI σ 1219)) then (
        L_X5_measures n  10 x1 x2 (x3 + (1)) 0 σ
      ) else (
        bif cNe x2 0 then (
          bif vin (((gI σ 1217) * x3) + x4) 36 then
          bif cGe (gA σ 26 (Int32.toNatClampNeg (((gI σ 1217) * x3) + x4))) 0 then (
            L_X5_measures n  21 x1 x2 x3 (x4 + (1)) σ
          ) else (
            (F_X5_isBeside x4 x3 (x2 - (1)) σ).bind fun q1 =>
            let v1 := q1.1
            let s1 := q1.2
            bif cEq v1 0 then (
              L_X5_measures n  21 x1 x2 x3 (x4 + (1)) s1
            ) else (
              bif vin (((gI σ 1217) * x3) + x4) 36 then
              L_X5_measures n  21 x1 x2 x3 (x4 + (1)) (sA s1 26 (Int32.toNatClampNeg (((gI σ 1217) * x3) + x4)) x2)
              else none
            )
          )
          else none
        ) else (
          (F_X5_isOver x4 x3 x1 σ).bind fun q2 =>
          let v2 := q2.1
          let s2 := q2.2
          bif cEq v2 0 then (
            bif vin (((gI σ 1217) * x3) + x4) 36 then
            L_X5_measures n  21 x1 x2 x3 (x4 + (1)) (sA s2 26 (Int32.toNatClampNeg (((gI σ 1217) * x3) + x4)) (-9))
            else none
          ) else (
            bif vin (((gI σ 1217) * x3) + x4) 36 then
            L_X5_measures n  21 x1 x2 x3 (x4 + (1)) (sA s2 26 (Int32.toNatClampNeg (((gI σ 1217) * x3) + x4)) (0))
            else none
          )
        )
      )
    ) else
    none
set_option maxRecDepth 50000 in
theorem ml_X5_measures  (n : Nat) : (∀ (x1 : Int32) (x2 : Int32) (u3 : Option Value) (u4 : Option Value) (u5 : Option Value) (σ : PS) (v : Unit) (σ' : PS), L_X5_measures n 2 x1 x2 0 0 σ = some (v, σ') → RU ubX5_measures 4 94 (2, [some (.ref 19), some (.int x1), some (.int x2), u3, u4, u5], [], σ) (none) σ') ∧ (∀ (x1 : Int32) (x2 : Int32) (x3 : Int32) (u4 : Option Value) (u5 : Option Value) (σ : PS) (v : Unit) (σ' : PS), L_X5_measures n 10 x1 x2 x3 0 σ = some (v, σ') → RU ubX5_measures 4 94 (10, [some (.ref 19), some (.int x1), some (.int x2), some (.int x3), u4, u5], [], σ) (none) σ') ∧ (∀ (x1 : Int32) (x2 : Int32) (x3 : Int32) (x4 : Int32) (u5 : Option Value) (σ : PS) (v : Unit) (σ' : PS), L_X5_measures n 21 x1 x2 x3 x4 σ = some (v, σ') → RU ubX5_measures 4 94 (21, [some (.ref 19), some (.int x1), some (.int x2), some (.int x3), some (.int x4), u5], [], σ) (none) σ') := by
  induction n with
  | zero =>
    refine ⟨?_, ?_, ?_⟩
    · intro x1 x2 u3 u4 u5 σ v σ' h; exact absurd (show (none : Option (Unit × PS)) = some (v, σ') from h) (by simp)
    · intro x1 x2 x3 u4 u5 σ v σ' h; exact absurd (show (none : Option (Unit × PS)) = some (v, σ') from h) (by simp)
    · intro x1 x2 x3 x4 u5 σ v σ' h; exact absurd (show (none : Option (Unit × PS)) = some (v, σ') from h) (by simp)
  | succ n ih =>
    refine ⟨?_, ?_, ?_⟩
    · intro x1 x2 u3 u4 u5 σ v σ' h
      rw [L_X5_measures] at h
      rcases cnd_some h with ⟨hc, h⟩ | ⟨hc, h⟩
      rotate_left
      · exact absurd hc (by decide)
      refine RU.blk (C' := (bif cGe x2 (36) then 126 else 8, [some (.ref 19), some (.int x1), some (.int x2), none, none, none], [], σ)) 3 rfl ?_
      rcases cnd_some h with ⟨hc, h⟩ | ⟨hc, h⟩
      · refine RU.tt hc ?_
        obtain ⟨rfl, rfl⟩ := ret_inj h
        exact RU.ret rfl rfl rfl
      · refine RU.ff hc ?_
        refine RU.blk (C' := (10, [some (.ref 19), some (.int x1), some (.int x2), some (.int (0)), none, none], [], σ)) 2 rfl ?_
        exact ih.2.1 x1 x2 (0) none none _ _ _ h
    · intro x1 x2 x3 u4 u5 σ v σ' h
      rw [L_X5_measures] at h
      rcases cnd_some h with ⟨hc, h⟩ | ⟨hc, h⟩
      · exact absurd hc (by decide)
      rcases cnd_some h with ⟨hc, h⟩ | ⟨hc, h⟩
      rotate_left
      · exact absurd hc (by decide)
      refine RU.blk (C' := (bif cGe x3 (gI σ 1218) then 120 else 18, [some (.ref 19), some (.int x1), some (.int x2), some (.int x3), none, none], [], σ)) 4 rfl ?_
      rcases cnd_some h with ⟨hc, h⟩ | ⟨hc, h⟩
      · refine RU.tt hc ?_
        refine RU.blk (C' := (2, [some (.ref 19), some (.int x1), some (.int (x2 + (1))), some (.int x3), none, none], [], σ)) 2 rfl ?_
        exact ih.1 x1 (x2 + (1)) (some (.int x3)) none none _ _ _ h
      · refine RU.ff hc ?_
        refine RU.blk (C' := (21, [some (.ref 19), some (.int x1), some (.int x2), some (.int x3), some (.int (0)), none], [], σ)) 2 rfl ?_
        exact ih.2.2 x1 x2 x3 (0) none _ _ _ h
    · intro x1 x2 x3 x4 u5 σ v σ' h
      rw [L_X5_measures] at h
      rcases cnd_some h with ⟨hc, h⟩ | ⟨hc, h⟩
      · exact absurd hc (by decide)
      rcases cnd_some h with ⟨hc, h⟩ | ⟨hc, h⟩
      · exact absurd hc (by decide)
      rcases cnd_some h with ⟨hc, h⟩ | ⟨hc, h⟩
      rotate_left
      · exact absurd hc (by decide)
      refine RU.blk (C' := (bif cGt x4 ((gI σ 1217) - (gI σ 1219)) then 114 else 35, [some (.ref 19), some (.int x1), some (.int x2), some (.int x3), some (.int x4), none], [], σ)) 7 rfl ?_
      rcases cnd_some h with ⟨hc, h⟩ | ⟨hc, h⟩
      · refine RU.tt hc ?_
        refine RU.blk (C' := (10, [some (.ref 19), some (.int x1), some (.int x2), some (.int (x3 + (1))), some (.int x4), none], [], σ)) 2 rfl ?_
        exact ih.2.1 x1 x2 (x3 + (1)) (some (.int x4)) none _ _ _ h
      · refine RU.ff hc ?_
        refine RU.blk (C' := (bif cNe x2 0 then 77 else 50, [some (.ref 19), some (.int x1), some (.int x2), some (.int x3), some (.int x4), some (.int (((gI σ 1217) * x3) + x4))], [], σ)) 9 rfl ?_
        rcases cnd_some h with ⟨hc, h⟩ | ⟨hc, h⟩
        · refine RU.tt hc ?_
          refine RU.blk (C' := (83, [some (.ref 19), some (.int x1), some (.int x2), some (.int x3), some (.int x4), some (.int (((gI σ 1217) * x3) + x4))], [.int (((gI σ 1217) * x3) + x4), .ref 26], σ)) 3 rfl ?_
          obtain ⟨hv, h⟩ := cnd_n h
          refine RU.iald (N := 36) rfl rfl hv ?_
          refine RU.blk (C' := (bif cGe (gA σ 26 (Int32.toNatClampNeg (((gI σ 1217) * x3) + x4))) 0 then 108 else 87, [some (.ref 19), some (.int x1), some (.int x2), some (.int x3), some (.int x4), some (.int (((gI σ 1217) * x3) + x4))], [], σ)) 1 rfl ?_
          rcases cnd_some h with ⟨hc, h⟩ | ⟨hc, h⟩
          · refine RU.tt hc ?_
            refine RU.blk (C' := (21, [some (.ref 19), some (.int x1), some (.int x2), some (.int x3), some (.int (x4 + (1))), some (.int (((gI σ 1217) * x3) + x4))], [], σ)) 2 rfl ?_
            exact ih.2.2 x1 x2 x3 (x4 + (1)) (some (.int (((gI σ 1217) * x3) + x4))) _ _ _ h
          · refine RU.ff hc ?_
            refine RU.blk (C' := (94, [some (.ref 19), some (.int x1), some (.int x2), some (.int x3), some (.int x4), some (.int (((gI σ 1217) * x3) + x4))], [.int (x2 - (1)), .int x3, .int x4, .ref 19], σ)) 6 rfl ?_
            obtain ⟨⟨v1, s1⟩, hk, h⟩ := Option.bind_eq_some_iff.mp h
            dsimp only at h
            refine RU.call (as := [.ref 19, .int x4, .int x3, .int (x2 - (1))]) (rest := []) (u := some (.int v1)) (C' := (97, [some (.ref 19), some (.int x1), some (.int x2), some (.int x3), some (.int x4), some (.int (((gI σ 1217) * x3) + x4))], [.int v1], s1)) rfl rfl (m_X5_isBeside x4 x3 (x2 - (1)) σ hk) rfl rfl ?_
            refine RU.blk (C' := (bif cEq v1 0 then 108 else 100, [some (.ref 19), some (.int x1), some (.int x2), some (.int x3), some (.int x4), some (.int (((gI σ 1217) * x3) + x4))], [], s1)) 1 rfl ?_
            rcases cnd_some h with ⟨hc, h⟩ | ⟨hc, h⟩
            · refine RU.tt hc ?_
              refine RU.blk (C' := (21, [some (.ref 19), some (.int x1), some (.int x2), some (.int x3), some (.int (x4 + (1))), some (.int (((gI σ 1217) * x3) + x4))], [], s1)) 2 rfl ?_
              exact ih.2.2 x1 x2 x3 (x4 + (1)) (some (.int (((gI σ 1217) * x3) + x4))) _ _ _ h
            · refine RU.ff hc ?_
              refine RU.blk (C' := (107, [some (.ref 19), some (.int x1), some (.int x2), some (.int x3), some (.int x4), some (.int (((gI σ 1217) * x3) + x4))], [.int x2, .int (((gI σ 1217) * x3) + x4), .ref 26], s1)) 4 rfl ?_
              obtain ⟨hv, h⟩ := cnd_n h
              refine RU.iast (N := 36) rfl rfl hv ?_
              refine RU.blk (C' := (21, [some (.ref 19), some (.int x1), some (.int x2), some (.int x3), some (.int (x4 + (1))), some (.int (((gI σ 1217) * x3) + x4))], [], (sA s1 26 (Int32.toNatClampNeg (((gI σ 1217) * x3) + x4)) x2))) 2 rfl ?_
              exact ih.2.2 x1 x2 x3 (x4 + (1)) (some (.int (((gI σ 1217) * x3) + x4))) _ _ _ h
        · refine RU.ff hc ?_
          refine RU.blk (C' := (61, [some (.ref 19), some (.int x1), some (.int x2), some (.int x3), some (.int x4), some (.int (((gI σ 1217) * x3) + x4))], [.int x1, .int x3, .int x4, .ref 19, .int (((gI σ 1217) * x3) + x4), .ref 26], σ)) 7 rfl ?_
          obtain ⟨⟨v2, s2⟩, hk, h⟩ := Option.bind_eq_some_iff.mp h
          dsimp only at h
          refine RU.call (as := [.ref 19, .int x4, .int x3, .int x1]) (rest := [.int (((gI σ 1217) * x3) + x4), .ref 26]) (u := some (.int v2)) (C' := (64, [some (.ref 19), some (.int x1), some (.int x2), some (.int x3), some (.int x4), some (.int (((gI σ 1217) * x3) + x4))], [.int v2, .int (((gI σ 1217) * x3) + x4), .ref 26], s2)) rfl rfl (m_X5_isOver x4 x3 x1 σ hk) rfl rfl ?_
          refine RU.blk (C' := (bif cEq v2 0 then 71 else 67, [some (.ref 19), some (.int x1), some (.int x2), some (.int x3), some (.int x4), some (.int (((gI σ 1217) * x3) + x4))], [.int (((gI σ 1217) * x3) + x4), .ref 26], s2)) 1 rfl ?_
          rcases cnd_some h with ⟨hc, h⟩ | ⟨hc, h⟩
          · refine RU.tt hc ?_
            refine RU.blk (C' := (73, [some (.ref 19), some (.int x1), some (.int x2), some (.int x3), some (.int x4), some (.int (((gI σ 1217) * x3) + x4))], [.int (-9), .int (((gI σ 1217) * x3) + x4), .ref 26], s2)) 1 rfl ?_
            obtain ⟨hv, h⟩ := cnd_n h
            refine RU.iast (N := 36) rfl rfl hv ?_
            refine RU.blk (C' := (21, [some (.ref 19), some (.int x1), some (.int x2), some (.int x3), some (.int (x4 + (1))), some (.int (((gI σ 1217) * x3) + x4))], [], (sA s2 26 (Int32.toNatClampNeg (((gI σ 1217) * x3) + x4)) (-9)))) 3 rfl ?_
            exact ih.2.2 x1 x2 x3 (x4 + (1)) (some (.int (((gI σ 1217) * x3) + x4))) _ _ _ h
          · refine RU.ff hc ?_
            refine RU.blk (C' := (73, [some (.ref 19), some (.int x1), some (.int x2), some (.int x3), some (.int x4), some (.int (((gI σ 1217) * x3) + x4))], [.int (0), .int (((gI σ 1217) * x3) + x4), .ref 26], s2)) 2 rfl ?_
            obtain ⟨hv, h⟩ := cnd_n h
            refine RU.iast (N := 36) rfl rfl hv ?_
            refine RU.blk (C' := (21, [some (.ref 19), some (.int x1), some (.int x2), some (.int x3), some (.int (x4 + (1))), some (.int (((gI σ 1217) * x3) + x4))], [], (sA s2 26 (Int32.toNatClampNeg (((gI σ 1217) * x3) + x4)) (0)))) 3 rfl ?_
            exact ih.2.2 x1 x2 x3 (x4 + (1)) (some (.int (((gI σ 1217) * x3) + x4))) _ _ _ h
noncomputable def F_X5_measures (p0 : Int32) (σ : PS) : Option (Unit × PS) :=
  L_X5_measures fuelN  2 p0 (0) 0 0 σ
set_option maxRecDepth 50000 in
theorem m_X5_measures (p0 : Int32) (σ : PS) {v : Unit} {σ' : PS} (h : F_X5_measures p0 σ = some (v, σ')) : PR 161 [.ref 19, .int p0] σ (none) σ' := by
  refine PR.enter (L := [some (.ref 19), some (.int p0), none, none, none, none]) uT_161 uD_161 rfl rfl ?_
  unfold F_X5_measures at h
  refine RU.blk (C' := (2, [some (.ref 19), some (.int p0), some (.int (0)), none, none, none], [], σ)) 2 rfl ?_
  exact (ml_X5_measures fuelN).1 p0 (0) none none none _ _ _ h
noncomputable def L_X5_wayStep  : Nat → Nat → Int32 → Int32 → Int32 → Int32 → Int32 → Int32 → Int32 → PS → Option (Int32 × PS)
  | 0, _, _, _, _, _, _, _, _, _ => none
  | n + 1, hd, x1, x2, x3, x4, x5, x6, x7, σ => 
    bif Nat.beq hd 17 then (
      bif cGt x5 x1 then (
        some (x4, σ)
      ) else (
        (F_X5_farAt x2 x3 σ).bind fun q1 =>
        let v1 := q1.1
        let s1 := q1.2
        L_X5_wayStep n  38 x1 x2 x3 (-9) x5 v1 (3) s1
      )
    ) else
    bif Nat.beq hd 38 then (
      bif cLt x7 0 then (
        (F_X5_columnBy x4 σ).bind fun q2 =>
        let v2 := q2.1
        let s2 := q2.2
        (F_X5_rowBy x4 s2).bind fun q3 =>
        let v3 := q3.1
        let s3 := q3.2
        L_X5_wayStep n  17 x1 (x2 + v2) (x3 + v3) x4 (x5 + (1)) 0 0 s3
      ) else (
        (F_X5_columnBy x7 σ).bind fun q4 =>
        let v4 := q4.1
        let s4 := q4.2
        (F_X5_rowBy x7 s4).bind fun q5 =>
        let v5 := q5.1
        let s5 := q5.2
        (F_X5_farAt (x2 + v4) (x3 + v5) s5).bind fun q6 =>
        let v6 := q6.1
        let s6 := q6.2
        bif cNe v6 (x6 - (1)) then (
          L_X5_wayStep n  38 x1 x2 x3 x4 x5 x6 (x7 + (-1)) s6
        ) else (
          L_X5_wayStep n  38 x1 x2 x3 x7 x5 x6 (x7 + (-1)) s6
        )
      )
    ) else
    none
set_option maxRecDepth 50000 in
theorem ml_X5_wayStep  (n : Nat) : (∀ (x1 : Int32) (x2 : Int32) (x3 : Int32) (x4 : Int32) (x5 : Int32) (u6 : Option Value) (u7 : Option Value) (σ : PS) (v : Int32) (σ' : PS), L_X5_wayStep n 17 x1 x2 x3 x4 x5 0 0 σ = some (v, σ') → RU ubX5_wayStep 3 69 (17, [some (.ref 19), some (.int x1), some (.int x2), some (.int x3), some (.int x4), some (.int x5), u6, u7], [], σ) (some (.int v)) σ') ∧ (∀ (x1 : Int32) (x2 : Int32) (x3 : Int32) (x4 : Int32) (x5 : Int32) (x6 : Int32) (x7 : Int32) (σ : PS) (v : Int32) (σ' : PS), L_X5_wayStep n 38 x1 x2 x3 x4 x5 x6 x7 σ = some (v, σ') → RU ubX5_wayStep 3 69 (38, [some (.ref 19), some (.int x1), some (.int x2), some (.int x3), some (.int x4), some (.int x5), some (.int x6), some (.int x7)], [], σ) (some (.int v)) σ') := by
  induction n with
  | zero =>
    refine ⟨?_, ?_⟩
    · intro x1 x2 x3 x4 x5 u6 u7 σ v σ' h; exact absurd (show (none : Option (Int32 × PS)) = some (v, σ') from h) (by simp)
    · intro x1 x2 x3 x4 x5 x6 x7 σ v σ' h; exact absurd (show (none : Option (Int32 × PS)) = some (v, σ') from h) (by simp)
  | succ n ih =>
    refine ⟨?_, ?_⟩
    · intro x1 x2 x3 x4 x5 u6 u7 σ v σ' h
      rw [L_X5_wayStep] at h
      rcases cnd_some h with ⟨hc, h⟩ | ⟨hc, h⟩
      rotate_left
      · exact absurd hc (by decide)
      refine RU.blk (C' := (bif cGt x5 x1 then 105 else 23, [some (.ref 19), some (.int x1), some (.int x2), some (.int x3), some (.int x4), some (.int x5), none, none], [], σ)) 3 rfl ?_
      rcases cnd_some h with ⟨hc, h⟩ | ⟨hc, h⟩
      · refine RU.tt hc ?_
        refine RU.blk (C' := (107, [some (.ref 19), some (.int x1), some (.int x2), some (.int x3), some (.int x4), some (.int x5), none, none], [.int x4], σ)) 1 rfl ?_
        obtain ⟨rfl, rfl⟩ := ret_inj h
        exact RU.ret rfl rfl rfl
      · refine RU.ff hc ?_
        refine RU.blk (C' := (26, [some (.ref 19), some (.int x1), some (.int x2), some (.int x3), some (.int x4), some (.int x5), none, none], [.int x3, .int x2, .ref 19], σ)) 3 rfl ?_
        obtain ⟨⟨v1, s1⟩, hk, h⟩ := Option.bind_eq_some_iff.mp h
        dsimp only at h
        refine RU.call (as := [.ref 19, .int x2, .int x3]) (rest := []) (u := some (.int v1)) (C' := (29, [some (.ref 19), some (.int x1), some (.int x2), some (.int x3), some (.int x4), some (.int x5), none, none], [.int v1], s1)) rfl rfl (m_X5_farAt x2 x3 σ hk) rfl rfl ?_
        refine RU.blk (C' := (38, [some (.ref 19), some (.int x1), some (.int x2), some (.int x3), some (.int (-9)), some (.int x5), some (.int v1), some (.int (3))], [], s1)) 5 rfl ?_
        exact ih.2 x1 x2 x3 (-9) x5 v1 (3) _ _ _ h
    · intro x1 x2 x3 x4 x5 x6 x7 σ v σ' h
      rw [L_X5_wayStep] at h
      rcases cnd_some h with ⟨hc, h⟩ | ⟨hc, h⟩
      · exact absurd hc (by decide)
      rcases cnd_some h with ⟨hc, h⟩ | ⟨hc, h⟩
      rotate_left
      · exact absurd hc (by decide)
      refine RU.blk (C' := (bif cLt x7 0 then 83 else 43, [some (.ref 19), some (.int x1), some (.int x2), some (.int x3), some (.int x4), some (.int x5), some (.int x6), some (.int x7)], [], σ)) 2 rfl ?_
      rcases cnd_some h with ⟨hc, h⟩ | ⟨hc, h⟩
      · refine RU.tt hc ?_
        refine RU.blk (C' := (86, [some (.ref 19), some (.int x1), some (.int x2), some (.int x3), some (.int x4), some (.int x5), some (.int x6), some (.int x7)], [.int x4, .int x2], σ)) 2 rfl ?_
        obtain ⟨⟨v2, s2⟩, hk, h⟩ := Option.bind_eq_some_iff.mp h
        dsimp only at h
        refine RU.call (as := [.int x4]) (rest := [.int x2]) (u := some (.int v2)) (C' := (89, [some (.ref 19), some (.int x1), some (.int x2), some (.int x3), some (.int x4), some (.int x5), some (.int x6), some (.int x7)], [.int v2, .int x2], s2)) rfl rfl (m_X5_columnBy x4 σ hk) rfl rfl ?_
        refine RU.blk (C' := (94, [some (.ref 19), some (.int x1), some (.int (x2 + v2)), some (.int x3), some (.int x4), some (.int x5), some (.int x6), some (.int x7)], [.int x4, .int x3], s2)) 4 rfl ?_
        obtain ⟨⟨v3, s3⟩, hk, h⟩ := Option.bind_eq_some_iff.mp h
        dsimp only at h
        refine RU.call (as := [.int x4]) (rest := [.int x3]) (u := some (.int v3)) (C' := (97, [some (.ref 19), some (.int x1), some (.int (x2 + v2)), some (.int x3), some (.int x4), some (.int x5), some (.int x6), some (.int x7)], [.int v3, .int x3], s3)) rfl rfl (m_X5_rowBy x4 s2 hk) rfl rfl ?_
        refine RU.blk (C' := (17, [some (.ref 19), some (.int x1), some (.int (x2 + v2)), some (.int (x3 + v3)), some (.int x4), some (.int (x5 + (1))), some (.int x6), some (.int x7)], [], s3)) 4 rfl ?_
        exact ih.1 x1 (x2 + v2) (x3 + v3) x4 (x5 + (1)) (some (.int x6)) (some (.int x7)) _ _ _ h
      · refine RU.ff hc ?_
        refine RU.blk (C' := (47, [some (.ref 19), some (.int x1), some (.int x2), some (.int x3), some (.int x4), some (.int x5), some (.int x6), some (.int x7)], [.int x7, .int x2, .ref 19], σ)) 3 rfl ?_
        obtain ⟨⟨v4, s4⟩, hk, h⟩ := Option.bind_eq_some_iff.mp h
        dsimp only at h
        refine RU.call (as := [.int x7]) (rest := [.int x2, .ref 19]) (u := some (.int v4)) (C' := (50, [some (.ref 19), some (.int x1), some (.int x2), some (.int x3), some (.int x4), some (.int x5), some (.int x6), some (.int x7)], [.int v4, .int x2, .ref 19], s4)) rfl rfl (m_X5_columnBy x7 σ hk) rfl rfl ?_
        refine RU.blk (C' := (54, [some (.ref 19), some (.int x1), some (.int x2), some (.int x3), some (.int x4), some (.int x5), some (.int x6), some (.int x7)], [.int x7, .int x3, .int (x2 + v4), .ref 19], s4)) 3 rfl ?_
        obtain ⟨⟨v5, s5⟩, hk, h⟩ := Option.bind_eq_some_iff.mp h
        dsimp only at h
        refine RU.call (as := [.int x7]) (rest := [.int x3, .int (x2 + v4), .ref 19]) (u := some (.int v5)) (C' := (57, [some (.ref 19), some (.int x1), some (.int x2), some (.int x3), some (.int x4), some (.int x5), some (.int x6), some (.int x7)], [.int v5, .int x3, .int (x2 + v4), .ref 19], s5)) rfl rfl (m_X5_rowBy x7 s4 hk) rfl rfl ?_
        refine RU.blk (C' := (58, [some (.ref 19), some (.int x1), some (.int x2), some (.int x3), some (.int x4), some (.int x5), some (.int x6), some (.int x7)], [.int (x3 + v5), .int (x2 + v4), .ref 19], s5)) 1 rfl ?_
        obtain ⟨⟨v6, s6⟩, hk, h⟩ := Option.bind_eq_some_iff.mp h
        dsimp only at h
        refine RU.call (as := [.ref 19, .int (x2 + v4), .int (x3 + v5)]) (rest := []) (u := some (.int v6)) (C' := (61, [some (.ref 19), some (.int x1), some (.int x2), some (.int x3), some (.int x4), some (.int x5), some (.int x6), some (.int x7)], [.int v6], s6)) rfl rfl (m_X5_farAt (x2 + v4) (x3 + v5) s5 hk) rfl rfl ?_
        refine RU.blk (C' := (bif cNe v6 (x6 - (1)) then 73 else 68, [some (.ref 19), some (.int x1), some (.int x2), some (.int x3), some (.int x4), some (.int x5), some (.int x6), some (.int x7)], [], s6)) 4 rfl ?_
        rcases cnd_some h with ⟨hc, h⟩ | ⟨hc, h⟩
        · refine RU.tt hc ?_
          refine RU.blk (C' := (38, [some (.ref 19), some (.int x1), some (.int x2), some (.int x3), some (.int x4), some (.int x5), some (.int x6), some (.int (x7 + (-1)))], [], s6)) 4 rfl ?_
          exact ih.2 x1 x2 x3 x4 x5 x6 (x7 + (-1)) _ _ _ h
        · refine RU.ff hc ?_
          refine RU.blk (C' := (38, [some (.ref 19), some (.int x1), some (.int x2), some (.int x3), some (.int x7), some (.int x5), some (.int x6), some (.int (x7 + (-1)))], [], s6)) 5 rfl ?_
          exact ih.2 x1 x2 x3 x7 x5 x6 (x7 + (-1)) _ _ _ h
noncomputable def F_X5_wayStep (p0 : Int32) (σ : PS) : Option (Int32 × PS) :=
  L_X5_wayStep fuelN  17 p0 (gI σ 1220) (gI σ 1221) (-9) (0) 0 0 σ
set_option maxRecDepth 50000 in
theorem m_X5_wayStep (p0 : Int32) (σ : PS) {v : Int32} {σ' : PS} (h : F_X5_wayStep p0 σ = some (v, σ')) : PR 162 [.ref 19, .int p0] σ (some (.int v)) σ' := by
  refine PR.enter (L := [some (.ref 19), some (.int p0), none, none, none, none, none, none]) uT_162 uD_162 rfl rfl ?_
  unfold F_X5_wayStep at h
  refine RU.blk (C' := (17, [some (.ref 19), some (.int p0), some (.int (gI σ 1220)), some (.int (gI σ 1221)), some (.int (-9)), some (.int (0)), none, none], [], σ)) 10 rfl ?_
  exact (ml_X5_wayStep fuelN).1 p0 (gI σ 1220) (gI σ 1221) (-9) (0) none none _ _ _ h
noncomputable def F_X5_way (p0 : Int32) (p1 : Int32) (σ : PS) : Option (Int32 × PS) :=
  (F_X5_noPlace p0 σ).bind fun q1 =>
  let v1 := q1.1
  let s1 := q1.2
  bif cEq v1 0 then (
    (F_X5_in (Int32.toInt64 p1) (-1) (9) s1).bind fun q2 =>
    let v2 := q2.1
    let s2 := q2.2
    bif cNe v2 0 then (
      (F_X5_measures p0 s2).bind fun q3 =>
      let s3 := q3.2
      (F_X5_farAt (gI s3 1220) (gI s3 1221) s3).bind fun q4 =>
      let v4 := q4.1
      let s4 := q4.2
      bif cLt v4 0 then (
        some (v4, s4)
      ) else (
        bif cGe p1 0 then (
          bif cGe p1 v4 then (
            some ((-9), s4)
          ) else (
            (F_X5_wayStep p1 s4).bind fun q5 =>
            let v5 := q5.1
            let s5 := q5.2
            some (v5, s5)
          )
        ) else (
          some (v4, s4)
        )
      )
    ) else (
      some ((-2), s2)
    )
  ) else (
    some ((-1), s1)
  )
set_option maxRecDepth 50000 in
theorem m_X5_way (p0 : Int32) (p1 : Int32) (σ : PS) {v : Int32} {σ' : PS} (h : F_X5_way p0 p1 σ = some (v, σ')) : PR 163 [.ref 19, .int p0, .int p1] σ (some (.int v)) σ' := by
  refine PR.enter (L := [some (.ref 19), some (.int p0), some (.int p1), none]) uT_163 uD_163 rfl rfl ?_
  unfold F_X5_way at h
  refine RU.blk (C' := (2, [some (.ref 19), some (.int p0), some (.int p1), none], [.int p0, .ref 19], σ)) 2 rfl ?_
  obtain ⟨⟨v1, s1⟩, hk, h⟩ := Option.bind_eq_some_iff.mp h
  dsimp only at h
  refine RU.call (as := [.ref 19, .int p0]) (rest := []) (u := some (.int v1)) (C' := (5, [some (.ref 19), some (.int p0), some (.int p1), none], [.int v1], s1)) rfl rfl (m_X5_noPlace p0 σ hk) rfl rfl ?_
  refine RU.blk (C' := (bif cEq v1 0 then 10 else 8, [some (.ref 19), some (.int p0), some (.int p1), none], [], s1)) 1 rfl ?_
  rcases cnd_some h with ⟨hc, h⟩ | ⟨hc, h⟩
  · refine RU.tt hc ?_
    refine RU.blk (C' := (18, [some (.ref 19), some (.int p0), some (.int p1), none], [.long (9), .long (-1), .long (Int32.toInt64 p1)], s1)) 4 rfl ?_
    obtain ⟨⟨v2, s2⟩, hk, h⟩ := Option.bind_eq_some_iff.mp h
    dsimp only at h
    refine RU.call (as := [.long (Int32.toInt64 p1), .long (-1), .long (9)]) (rest := []) (u := some (.int v2)) (C' := (21, [some (.ref 19), some (.int p0), some (.int p1), none], [.int v2], s2)) rfl rfl (m_X5_in (Int32.toInt64 p1) (-1) (9) s1 hk) rfl rfl ?_
    refine RU.blk (C' := (bif cNe v2 0 then 27 else 24, [some (.ref 19), some (.int p0), some (.int p1), none], [], s2)) 1 rfl ?_
    rcases cnd_some h with ⟨hc, h⟩ | ⟨hc, h⟩
    · refine RU.tt hc ?_
      refine RU.blk (C' := (29, [some (.ref 19), some (.int p0), some (.int p1), none], [.int p0, .ref 19], s2)) 2 rfl ?_
      obtain ⟨⟨v3, s3⟩, hk, h⟩ := Option.bind_eq_some_iff.mp h
      dsimp only at h
      refine RU.call (as := [.ref 19, .int p0]) (rest := []) (u := none) (C' := (32, [some (.ref 19), some (.int p0), some (.int p1), none], [], s3)) rfl rfl (m_X5_measures p0 s2 hk) rfl rfl ?_
      refine RU.blk (C' := (41, [some (.ref 19), some (.int p0), some (.int p1), none], [.int (gI s3 1221), .int (gI s3 1220), .ref 19], s3)) 5 rfl ?_
      obtain ⟨⟨v4, s4⟩, hk, h⟩ := Option.bind_eq_some_iff.mp h
      dsimp only at h
      refine RU.call (as := [.ref 19, .int (gI s3 1220), .int (gI s3 1221)]) (rest := []) (u := some (.int v4)) (C' := (44, [some (.ref 19), some (.int p0), some (.int p1), none], [.int v4], s4)) rfl rfl (m_X5_farAt (gI s3 1220) (gI s3 1221) s3 hk) rfl rfl ?_
      refine RU.blk (C' := (bif cLt v4 0 then 53 else 49, [some (.ref 19), some (.int p0), some (.int p1), some (.int v4)], [], s4)) 3 rfl ?_
      rcases cnd_some h with ⟨hc, h⟩ | ⟨hc, h⟩
      · refine RU.tt hc ?_
        refine RU.blk (C' := (72, [some (.ref 19), some (.int p0), some (.int p1), some (.int v4)], [.int v4], s4)) 2 rfl ?_
        obtain ⟨rfl, rfl⟩ := ret_inj h
        exact RU.ret rfl rfl rfl
      · refine RU.ff hc ?_
        refine RU.blk (C' := (bif cGe p1 0 then 57 else 53, [some (.ref 19), some (.int p0), some (.int p1), some (.int v4)], [], s4)) 2 rfl ?_
        rcases cnd_some h with ⟨hc, h⟩ | ⟨hc, h⟩
        · refine RU.tt hc ?_
          refine RU.blk (C' := (bif cGe p1 v4 then 70 else 62, [some (.ref 19), some (.int p0), some (.int p1), some (.int v4)], [], s4)) 3 rfl ?_
          rcases cnd_some h with ⟨hc, h⟩ | ⟨hc, h⟩
          · refine RU.tt hc ?_
            refine RU.blk (C' := (72, [some (.ref 19), some (.int p0), some (.int p1), some (.int v4)], [.int (-9)], s4)) 1 rfl ?_
            obtain ⟨rfl, rfl⟩ := ret_inj h
            exact RU.ret rfl rfl rfl
          · refine RU.ff hc ?_
            refine RU.blk (C' := (64, [some (.ref 19), some (.int p0), some (.int p1), some (.int v4)], [.int p1, .ref 19], s4)) 2 rfl ?_
            obtain ⟨⟨v5, s5⟩, hk, h⟩ := Option.bind_eq_some_iff.mp h
            dsimp only at h
            refine RU.call (as := [.ref 19, .int p1]) (rest := []) (u := some (.int v5)) (C' := (67, [some (.ref 19), some (.int p0), some (.int p1), some (.int v4)], [.int v5], s5)) rfl rfl (m_X5_wayStep p1 s4 hk) rfl rfl ?_
            refine RU.blk (C' := (72, [some (.ref 19), some (.int p0), some (.int p1), some (.int v4)], [.int v5], s5)) 1 rfl ?_
            obtain ⟨rfl, rfl⟩ := ret_inj h
            exact RU.ret rfl rfl rfl
        · refine RU.ff hc ?_
          refine RU.blk (C' := (72, [some (.ref 19), some (.int p0), some (.int p1), some (.int v4)], [.int v4], s4)) 2 rfl ?_
          obtain ⟨rfl, rfl⟩ := ret_inj h
          exact RU.ret rfl rfl rfl
    · refine RU.ff hc ?_
      refine RU.blk (C' := (26, [some (.ref 19), some (.int p0), some (.int p1), none], [.int (-2)], s2)) 1 rfl ?_
      obtain ⟨rfl, rfl⟩ := ret_inj h
      exact RU.ret rfl rfl rfl
  · refine RU.ff hc ?_
    refine RU.blk (C' := (9, [some (.ref 19), some (.int p0), some (.int p1), none], [.int (-1)], s1)) 1 rfl ?_
    obtain ⟨rfl, rfl⟩ := ret_inj h
    exact RU.ret rfl rfl rfl
noncomputable def L_X5_seenBy  : Nat → Int32 → Int32 → Int32 → PS → Option (Int32 × PS)
  | 0, _, _, _, _ => none
  | n + 1, x1, x3, x4, σ => 
    bif cLt x4 0 then (
      bif cEq x3 0 then (
        (F_X5_bringBack σ).bind fun q1 =>
        let s1 := q1.2
        some ((-9), s1)
      ) else (
        (F_X5_bits (gL σ 1224) σ).bind fun q2 =>
        let v2 := q2.1
        let s2 := q2.2
        (F_X5_bits (gL s2 1239) s2).bind fun q3 =>
        let v3 := q3.1
        let s3 := q3.2
        (F_X5_bringBack s3).bind fun q4 =>
        let s4 := q4.2
        some ((v2 - v3), s4)
      )
    ) else (
      bif cEq x3 0 then (
        bif cEq x3 0 then (
          (F_X5_bringBack σ).bind fun q5 =>
          let s5 := q5.2
          some ((-9), s5)
        ) else (
          (F_X5_bits (gL σ 1224) σ).bind fun q6 =>
          let v6 := q6.1
          let s6 := q6.2
          (F_X5_bits (gL s6 1239) s6).bind fun q7 =>
          let v7 := q7.1
          let s7 := q7.2
          (F_X5_bringBack s7).bind fun q8 =>
          let s8 := q8.2
          some ((v6 - v7), s8)
        )
      ) else (
        (F_X5_steps ((shr x1 ((2) * x4)) &&& (3)) σ).bind fun q9 =>
        let v9 := q9.1
        let s9 := q9.2
        L_X5_seenBy n  x1 v9 (x4 + (-1)) s9
      )
    )
set_option maxRecDepth 50000 in
theorem ml_X5_seenBy  (n : Nat) : (∀ (x1 : Int32) (x3 : Int32) (x4 : Int32) (u2 : Option Value) (σ : PS) (v : Int32) (σ' : PS), L_X5_seenBy n x1 x3 x4 σ = some (v, σ') → RU ubX5_seenBy 3 70 (7, [some (.ref 19), some (.int x1), u2, some (.int x3), some (.int x4)], [], σ) (some (.int v)) σ') := by
  induction n with
  | zero =>
    intro x1 x3 x4 u2 σ v σ' h; exact absurd (show (none : Option (Int32 × PS)) = some (v, σ') from h) (by simp)
  | succ n ih =>
    intro x1 x3 x4 u2 σ v σ' h
    rw [L_X5_seenBy] at h
    refine RU.blk (C' := (bif cLt x4 0 then 35 else 12, [some (.ref 19), some (.int x1), none, some (.int x3), some (.int x4)], [], σ)) 2 rfl ?_
    rcases cnd_some h with ⟨hc, h⟩ | ⟨hc, h⟩
    · refine RU.tt hc ?_
      refine RU.blk (C' := (bif cEq x3 0 then 57 else 39, [some (.ref 19), some (.int x1), none, some (.int x3), some (.int x4)], [], σ)) 2 rfl ?_
      rcases cnd_some h with ⟨hc, h⟩ | ⟨hc, h⟩
      · refine RU.tt hc ?_
        refine RU.blk (C' := (62, [some (.ref 19), some (.int x1), none, some (.int x3), some (.int (-9))], [.ref 19], σ)) 3 rfl ?_
        obtain ⟨⟨v1, s1⟩, hk, h⟩ := Option.bind_eq_some_iff.mp h
        dsimp only at h
        refine RU.call (as := [.ref 19]) (rest := []) (u := none) (C' := (65, [some (.ref 19), some (.int x1), none, some (.int x3), some (.int (-9))], [], s1)) rfl rfl (m_X5_bringBack σ hk) rfl rfl ?_
        refine RU.blk (C' := (67, [some (.ref 19), some (.int x1), none, some (.int x3), some (.int (-9))], [.int (-9)], s1)) 1 rfl ?_
        obtain ⟨rfl, rfl⟩ := ret_inj h
        exact RU.ret rfl rfl rfl
      · refine RU.ff hc ?_
        refine RU.blk (C' := (43, [some (.ref 19), some (.int x1), none, some (.int x3), some (.int x4)], [.long (gL σ 1224)], σ)) 2 rfl ?_
        obtain ⟨⟨v2, s2⟩, hk, h⟩ := Option.bind_eq_some_iff.mp h
        dsimp only at h
        refine RU.call (as := [.long (gL σ 1224)]) (rest := []) (u := some (.int v2)) (C' := (46, [some (.ref 19), some (.int x1), none, some (.int x3), some (.int x4)], [.int v2], s2)) rfl rfl (m_X5_bits (gL σ 1224) σ hk) rfl rfl ?_
        refine RU.blk (C' := (50, [some (.ref 19), some (.int x1), none, some (.int x3), some (.int x4)], [.long (gL s2 1239), .int v2], s2)) 2 rfl ?_
        obtain ⟨⟨v3, s3⟩, hk, h⟩ := Option.bind_eq_some_iff.mp h
        dsimp only at h
        refine RU.call (as := [.long (gL s2 1239)]) (rest := [.int v2]) (u := some (.int v3)) (C' := (53, [some (.ref 19), some (.int x1), none, some (.int x3), some (.int x4)], [.int v3, .int v2], s3)) rfl rfl (m_X5_bits (gL s2 1239) s2 hk) rfl rfl ?_
        refine RU.blk (C' := (62, [some (.ref 19), some (.int x1), none, some (.int x3), some (.int (v2 - v3))], [.ref 19], s3)) 4 rfl ?_
        obtain ⟨⟨v4, s4⟩, hk, h⟩ := Option.bind_eq_some_iff.mp h
        dsimp only at h
        refine RU.call (as := [.ref 19]) (rest := []) (u := none) (C' := (65, [some (.ref 19), some (.int x1), none, some (.int x3), some (.int (v2 - v3))], [], s4)) rfl rfl (m_X5_bringBack s3 hk) rfl rfl ?_
        refine RU.blk (C' := (67, [some (.ref 19), some (.int x1), none, some (.int x3), some (.int (v2 - v3))], [.int (v2 - v3)], s4)) 1 rfl ?_
        obtain ⟨rfl, rfl⟩ := ret_inj h
        exact RU.ret rfl rfl rfl
    · refine RU.ff hc ?_
      refine RU.blk (C' := (bif cEq x3 0 then 35 else 16, [some (.ref 19), some (.int x1), none, some (.int x3), some (.int x4)], [], σ)) 2 rfl ?_
      rcases cnd_some h with ⟨hc, h⟩ | ⟨hc, h⟩
      · refine RU.tt hc ?_
        refine RU.blk (C' := (bif cEq x3 0 then 57 else 39, [some (.ref 19), some (.int x1), none, some (.int x3), some (.int x4)], [], σ)) 2 rfl ?_
        rcases cnd_some h with ⟨hc, h⟩ | ⟨hc, h⟩
        · refine RU.tt hc ?_
          refine RU.blk (C' := (62, [some (.ref 19), some (.int x1), none, some (.int x3), some (.int (-9))], [.ref 19], σ)) 3 rfl ?_
          obtain ⟨⟨v5, s5⟩, hk, h⟩ := Option.bind_eq_some_iff.mp h
          dsimp only at h
          refine RU.call (as := [.ref 19]) (rest := []) (u := none) (C' := (65, [some (.ref 19), some (.int x1), none, some (.int x3), some (.int (-9))], [], s5)) rfl rfl (m_X5_bringBack σ hk) rfl rfl ?_
          refine RU.blk (C' := (67, [some (.ref 19), some (.int x1), none, some (.int x3), some (.int (-9))], [.int (-9)], s5)) 1 rfl ?_
          obtain ⟨rfl, rfl⟩ := ret_inj h
          exact RU.ret rfl rfl rfl
        · refine RU.ff hc ?_
          refine RU.blk (C' := (43, [some (.ref 19), some (.int x1), none, some (.int x3), some (.int x4)], [.long (gL σ 1224)], σ)) 2 rfl ?_
          obtain ⟨⟨v6, s6⟩, hk, h⟩ := Option.bind_eq_some_iff.mp h
          dsimp only at h
          refine RU.call (as := [.long (gL σ 1224)]) (rest := []) (u := some (.int v6)) (C' := (46, [some (.ref 19), some (.int x1), none, some (.int x3), some (.int x4)], [.int v6], s6)) rfl rfl (m_X5_bits (gL σ 1224) σ hk) rfl rfl ?_
          refine RU.blk (C' := (50, [some (.ref 19), some (.int x1), none, some (.int x3), some (.int x4)], [.long (gL s6 1239), .int v6], s6)) 2 rfl ?_
          obtain ⟨⟨v7, s7⟩, hk, h⟩ := Option.bind_eq_some_iff.mp h
          dsimp only at h
          refine RU.call (as := [.long (gL s6 1239)]) (rest := [.int v6]) (u := some (.int v7)) (C' := (53, [some (.ref 19), some (.int x1), none, some (.int x3), some (.int x4)], [.int v7, .int v6], s7)) rfl rfl (m_X5_bits (gL s6 1239) s6 hk) rfl rfl ?_
          refine RU.blk (C' := (62, [some (.ref 19), some (.int x1), none, some (.int x3), some (.int (v6 - v7))], [.ref 19], s7)) 4 rfl ?_
          obtain ⟨⟨v8, s8⟩, hk, h⟩ := Option.bind_eq_some_iff.mp h
          dsimp only at h
          refine RU.call (as := [.ref 19]) (rest := []) (u := none) (C' := (65, [some (.ref 19), some (.int x1), none, some (.int x3), some (.int (v6 - v7))], [], s8)) rfl rfl (m_X5_bringBack s7 hk) rfl rfl ?_
          refine RU.blk (C' := (67, [some (.ref 19), some (.int x1), none, some (.int x3), some (.int (v6 - v7))], [.int (v6 - v7)], s8)) 1 rfl ?_
          obtain ⟨rfl, rfl⟩ := ret_inj h
          exact RU.ret rfl rfl rfl
      · refine RU.ff hc ?_
        refine RU.blk (C' := (25, [some (.ref 19), some (.int x1), none, some (.int x3), some (.int x4)], [.int ((shr x1 ((2) * x4)) &&& (3)), .ref 19], σ)) 8 rfl ?_
        obtain ⟨⟨v9, s9⟩, hk, h⟩ := Option.bind_eq_some_iff.mp h
        dsimp only at h
        refine RU.call (as := [.ref 19, .int ((shr x1 ((2) * x4)) &&& (3))]) (rest := []) (u := some (.int v9)) (C' := (28, [some (.ref 19), some (.int x1), none, some (.int x3), some (.int x4)], [.int v9], s9)) rfl rfl (m_X5_steps ((shr x1 ((2) * x4)) &&& (3)) σ hk) rfl rfl ?_
        refine RU.blk (C' := (7, [some (.ref 19), some (.int x1), none, some (.int v9), some (.int (x4 + (-1)))], [], s9)) 3 rfl ?_
        exact ih x1 v9 (x4 + (-1)) none _ _ _ h
noncomputable def F_X5_seenBy (p0 : Int32) (p1 : Int32) (σ : PS) : Option (Int32 × PS) :=
  L_X5_seenBy fuelN  p0 (1) (p1 - (1)) σ
set_option maxRecDepth 50000 in
theorem m_X5_seenBy (p0 : Int32) (p1 : Int32) (σ : PS) {v : Int32} {σ' : PS} (h : F_X5_seenBy p0 p1 σ = some (v, σ')) : PR 164 [.ref 19, .int p0, .int p1] σ (some (.int v)) σ' := by
  refine PR.enter (L := [some (.ref 19), some (.int p0), some (.int p1), none, none]) uT_164 uD_164 rfl rfl ?_
  unfold F_X5_seenBy at h
  refine RU.blk (C' := (7, [some (.ref 19), some (.int p0), some (.int p1), some (.int (1)), some (.int (p1 - (1)))], [], σ)) 6 rfl ?_
  exact (ml_X5_seenBy fuelN) p0 (1) (p1 - (1)) (some (.int p1)) _ _ _ h
noncomputable def L_X5_most  : Nat → Int32 → Int32 → Int32 → Int32 → Int32 → PS → Option (Int32 × PS)
  | 0, _, _, _, _, _, _ => none
  | n + 1, x1, x2, x3, x4, x5, σ => 
    bif cGe x5 (shl (1) ((2) * x1)) then (
      bif cLt x2 0 then (
        some (x4, σ)
      ) else (
        bif cGe x3 0 then (
          bif cGe x2 x1 then (
            some ((-9), σ)
          ) else (
            some (((shr x3 ((2) * ((x1 - (1)) - x2))) &&& (3)), σ)
          )
        ) else (
          some (x4, σ)
        )
      )
    ) else (
      (F_X5_seenBy x5 x1 σ).bind fun q1 =>
      let v1 := q1.1
      let s1 := q1.2
      bif cLe v1 x4 then (
        bif cLe v1 x4 then (
          L_X5_most n  x1 x2 x3 x4 (x5 + (1)) s1
        ) else (
          L_X5_most n  x1 x2 x3 v1 (x5 + (1)) s1
        )
      ) else (
        bif cLe v1 x4 then (
          L_X5_most n  x1 x2 x5 x4 (x5 + (1)) s1
        ) else (
          L_X5_most n  x1 x2 x5 v1 (x5 + (1)) s1
        )
      )
    )
set_option maxRecDepth 50000 in
theorem ml_X5_most  (n : Nat) : (∀ (x1 : Int32) (x2 : Int32) (x3 : Int32) (x4 : Int32) (x5 : Int32) (u6 : Option Value) (σ : PS) (v : Int32) (σ' : PS), L_X5_most n x1 x2 x3 x4 x5 σ = some (v, σ') → RU ubX5_most 4 94 (53, [some (.ref 19), some (.int x1), some (.int x2), some (.int x3), some (.int x4), some (.int x5), u6], [], σ) (some (.int v)) σ') := by
  induction n with
  | zero =>
    intro x1 x2 x3 x4 x5 u6 σ v σ' h; exact absurd (show (none : Option (Int32 × PS)) = some (v, σ') from h) (by simp)
  | succ n ih =>
    intro x1 x2 x3 x4 x5 u6 σ v σ' h
    rw [L_X5_most] at h
    refine RU.blk (C' := (bif cGe x5 (shl (1) ((2) * x1)) then 108 else 63, [some (.ref 19), some (.int x1), some (.int x2), some (.int x3), some (.int x4), some (.int x5), none], [], σ)) 7 rfl ?_
    rcases cnd_some h with ⟨hc, h⟩ | ⟨hc, h⟩
    · refine RU.tt hc ?_
      refine RU.blk (C' := (bif cLt x2 0 then 116 else 112, [some (.ref 19), some (.int x1), some (.int x2), some (.int x3), some (.int x4), some (.int x5), none], [], σ)) 2 rfl ?_
      rcases cnd_some h with ⟨hc, h⟩ | ⟨hc, h⟩
      · refine RU.tt hc ?_
        refine RU.blk (C' := (142, [some (.ref 19), some (.int x1), some (.int x2), some (.int x3), some (.int x4), some (.int x5), none], [.int x4], σ)) 2 rfl ?_
        obtain ⟨rfl, rfl⟩ := ret_inj h
        exact RU.ret rfl rfl rfl
      · refine RU.ff hc ?_
        refine RU.blk (C' := (bif cGe x3 0 then 121 else 116, [some (.ref 19), some (.int x1), some (.int x2), some (.int x3), some (.int x4), some (.int x5), none], [], σ)) 2 rfl ?_
        rcases cnd_some h with ⟨hc, h⟩ | ⟨hc, h⟩
        · refine RU.tt hc ?_
          refine RU.blk (C' := (bif cGe x2 x1 then 140 else 126, [some (.ref 19), some (.int x1), some (.int x2), some (.int x3), some (.int x4), some (.int x5), none], [], σ)) 3 rfl ?_
          rcases cnd_some h with ⟨hc, h⟩ | ⟨hc, h⟩
          · refine RU.tt hc ?_
            refine RU.blk (C' := (142, [some (.ref 19), some (.int x1), some (.int x2), some (.int x3), some (.int x4), some (.int x5), none], [.int (-9)], σ)) 1 rfl ?_
            obtain ⟨rfl, rfl⟩ := ret_inj h
            exact RU.ret rfl rfl rfl
          · refine RU.ff hc ?_
            refine RU.blk (C' := (142, [some (.ref 19), some (.int x1), some (.int x2), some (.int x3), some (.int x4), some (.int x5), none], [.int ((shr x3 ((2) * ((x1 - (1)) - x2))) &&& (3))], σ)) 12 rfl ?_
            obtain ⟨rfl, rfl⟩ := ret_inj h
            exact RU.ret rfl rfl rfl
        · refine RU.ff hc ?_
          refine RU.blk (C' := (142, [some (.ref 19), some (.int x1), some (.int x2), some (.int x3), some (.int x4), some (.int x5), none], [.int x4], σ)) 2 rfl ?_
          obtain ⟨rfl, rfl⟩ := ret_inj h
          exact RU.ret rfl rfl rfl
    · refine RU.ff hc ?_
      refine RU.blk (C' := (67, [some (.ref 19), some (.int x1), some (.int x2), some (.int x3), some (.int x4), some (.int x5), none], [.int x1, .int x5, .ref 19], σ)) 3 rfl ?_
      obtain ⟨⟨v1, s1⟩, hk, h⟩ := Option.bind_eq_some_iff.mp h
      dsimp only at h
      refine RU.call (as := [.ref 19, .int x5, .int x1]) (rest := []) (u := some (.int v1)) (C' := (70, [some (.ref 19), some (.int x1), some (.int x2), some (.int x3), some (.int x4), some (.int x5), none], [.int v1], s1)) rfl rfl (m_X5_seenBy x5 x1 σ hk) rfl rfl ?_
      refine RU.blk (C' := (bif cLe v1 x4 then 84 else 79, [some (.ref 19), some (.int x1), some (.int x2), some (.int x3), some (.int x4), some (.int x5), some (.int v1)], [], s1)) 4 rfl ?_
      rcases cnd_some h with ⟨hc, h⟩ | ⟨hc, h⟩
      · refine RU.tt hc ?_
        refine RU.blk (C' := (bif cLe v1 x4 then 98 else 93, [some (.ref 19), some (.int x1), some (.int x2), some (.int x3), some (.int x4), some (.int x5), some (.int v1)], [], s1)) 5 rfl ?_
        rcases cnd_some h with ⟨hc, h⟩ | ⟨hc, h⟩
        · refine RU.tt hc ?_
          refine RU.blk (C' := (53, [some (.ref 19), some (.int x1), some (.int x2), some (.int x3), some (.int x4), some (.int (x5 + (1))), some (.int v1)], [], s1)) 4 rfl ?_
          exact ih x1 x2 x3 x4 (x5 + (1)) (some (.int v1)) _ _ _ h
        · refine RU.ff hc ?_
          refine RU.blk (C' := (53, [some (.ref 19), some (.int x1), some (.int x2), some (.int x3), some (.int v1), some (.int (x5 + (1))), some (.int v1)], [], s1)) 5 rfl ?_
          exact ih x1 x2 x3 v1 (x5 + (1)) (some (.int v1)) _ _ _ h
      · refine RU.ff hc ?_
        refine RU.blk (C' := (bif cLe v1 x4 then 98 else 93, [some (.ref 19), some (.int x1), some (.int x2), some (.int x5), some (.int x4), some (.int x5), some (.int v1)], [], s1)) 6 rfl ?_
        rcases cnd_some h with ⟨hc, h⟩ | ⟨hc, h⟩
        · refine RU.tt hc ?_
          refine RU.blk (C' := (53, [some (.ref 19), some (.int x1), some (.int x2), some (.int x5), some (.int x4), some (.int (x5 + (1))), some (.int v1)], [], s1)) 4 rfl ?_
          exact ih x1 x2 x5 x4 (x5 + (1)) (some (.int v1)) _ _ _ h
        · refine RU.ff hc ?_
          refine RU.blk (C' := (53, [some (.ref 19), some (.int x1), some (.int x2), some (.int x5), some (.int v1), some (.int (x5 + (1))), some (.int v1)], [], s1)) 5 rfl ?_
          exact ih x1 x2 x5 v1 (x5 + (1)) (some (.int v1)) _ _ _ h
noncomputable def F_X5_most (p0 : Int32) (p1 : Int32) (σ : PS) : Option (Int32 × PS) :=
  (F_X5_in (Int32.toInt64 p0) 1 (5) σ).bind fun q2 =>
  let v2 := q2.1
  let s2 := q2.2
  bif cEq v2 0 then (
    some ((-2), s2)
  ) else (
    (F_X5_in (Int32.toInt64 p1) (-1) (4) s2).bind fun q3 =>
    let v3 := q3.1
    let s3 := q3.2
    bif cNe v3 0 then (
      bif cNe (gI s3 1219) 0 then (
        (F_X5_keepAll s3).bind fun q4 =>
        let s4 := q4.2
        L_X5_most fuelN  p0 p1 (-9) (-9) (0) s4
      ) else (
        some ((-3), s3)
      )
    ) else (
      some ((-2), s3)
    )
  )
set_option maxRecDepth 50000 in
theorem m_X5_most (p0 : Int32) (p1 : Int32) (σ : PS) {v : Int32} {σ' : PS} (h : F_X5_most p0 p1 σ = some (v, σ')) : PR 165 [.ref 19, .int p0, .int p1] σ (some (.int v)) σ' := by
  refine PR.enter (L := [some (.ref 19), some (.int p0), some (.int p1), none, none, none, none]) uT_165 uD_165 rfl rfl ?_
  unfold F_X5_most at h
  refine RU.blk (C' := (6, [some (.ref 19), some (.int p0), some (.int p1), none, none, none, none], [.long (5), .long 1, .long (Int32.toInt64 p0)], σ)) 4 rfl ?_
  obtain ⟨⟨v2, s2⟩, hk, h⟩ := Option.bind_eq_some_iff.mp h
  dsimp only at h
  refine RU.call (as := [.long (Int32.toInt64 p0), .long 1, .long (5)]) (rest := []) (u := some (.int v2)) (C' := (9, [some (.ref 19), some (.int p0), some (.int p1), none, none, none, none], [.int v2], s2)) rfl rfl (m_X5_in (Int32.toInt64 p0) 1 (5) σ hk) rfl rfl ?_
  refine RU.blk (C' := (bif cEq v2 0 then 26 else 12, [some (.ref 19), some (.int p0), some (.int p1), none, none, none, none], [], s2)) 1 rfl ?_
  rcases cnd_some h with ⟨hc, h⟩ | ⟨hc, h⟩
  · refine RU.tt hc ?_
    refine RU.blk (C' := (28, [some (.ref 19), some (.int p0), some (.int p1), none, none, none, none], [.int (-2)], s2)) 1 rfl ?_
    obtain ⟨rfl, rfl⟩ := ret_inj h
    exact RU.ret rfl rfl rfl
  · refine RU.ff hc ?_
    refine RU.blk (C' := (20, [some (.ref 19), some (.int p0), some (.int p1), none, none, none, none], [.long (4), .long (-1), .long (Int32.toInt64 p1)], s2)) 4 rfl ?_
    obtain ⟨⟨v3, s3⟩, hk, h⟩ := Option.bind_eq_some_iff.mp h
    dsimp only at h
    refine RU.call (as := [.long (Int32.toInt64 p1), .long (-1), .long (4)]) (rest := []) (u := some (.int v3)) (C' := (23, [some (.ref 19), some (.int p0), some (.int p1), none, none, none, none], [.int v3], s3)) rfl rfl (m_X5_in (Int32.toInt64 p1) (-1) (4) s2 hk) rfl rfl ?_
    refine RU.blk (C' := (bif cNe v3 0 then 29 else 26, [some (.ref 19), some (.int p0), some (.int p1), none, none, none, none], [], s3)) 1 rfl ?_
    rcases cnd_some h with ⟨hc, h⟩ | ⟨hc, h⟩
    · refine RU.tt hc ?_
      refine RU.blk (C' := (bif cNe (gI s3 1219) 0 then 39 else 36, [some (.ref 19), some (.int p0), some (.int p1), none, none, none, none], [], s3)) 3 rfl ?_
      rcases cnd_some h with ⟨hc, h⟩ | ⟨hc, h⟩
      · refine RU.tt hc ?_
        refine RU.blk (C' := (40, [some (.ref 19), some (.int p0), some (.int p1), none, none, none, none], [.ref 19], s3)) 1 rfl ?_
        obtain ⟨⟨v4, s4⟩, hk, h⟩ := Option.bind_eq_some_iff.mp h
        dsimp only at h
        refine RU.call (as := [.ref 19]) (rest := []) (u := none) (C' := (43, [some (.ref 19), some (.int p0), some (.int p1), none, none, none, none], [], s4)) rfl rfl (m_X5_keepAll s3 hk) rfl rfl ?_
        refine RU.blk (C' := (53, [some (.ref 19), some (.int p0), some (.int p1), some (.int (-9)), some (.int (-9)), some (.int (0)), none], [], s4)) 6 rfl ?_
        exact (ml_X5_most fuelN) p0 p1 (-9) (-9) (0) none _ _ _ h
      · refine RU.ff hc ?_
        refine RU.blk (C' := (38, [some (.ref 19), some (.int p0), some (.int p1), none, none, none, none], [.int (-3)], s3)) 1 rfl ?_
        obtain ⟨rfl, rfl⟩ := ret_inj h
        exact RU.ret rfl rfl rfl
    · refine RU.ff hc ?_
      refine RU.blk (C' := (28, [some (.ref 19), some (.int p0), some (.int p1), none, none, none, none], [.int (-2)], s3)) 1 rfl ?_
      obtain ⟨rfl, rfl⟩ := ret_inj h
      exact RU.ret rfl rfl rfl
noncomputable def F_X5_areBeside (p0 : Int32) (p1 : Int32) (σ : PS) : Option (Int32 × PS) :=
  bif decide ((gI σ 1217) = 0) then none else
  bif decide ((gI σ 1217) = 0) then none else
  bif decide ((gI σ 1217) = 0) then none else
  bif decide ((gI σ 1217) = 0) then none else
  bif cNe ((((irem p0 (gI σ 1217)) - (irem p1 (gI σ 1217))) * ((irem p0 (gI σ 1217)) - (irem p1 (gI σ 1217)))) + (((p0 / (gI σ 1217)) - (p1 / (gI σ 1217))) * ((p0 / (gI σ 1217)) - (p1 / (gI σ 1217))))) (1) then (
    some ((0), σ)
  ) else (
    some ((1), σ)
  )
set_option maxRecDepth 50000 in
theorem m_X5_areBeside (p0 : Int32) (p1 : Int32) (σ : PS) {v : Int32} {σ' : PS} (h : F_X5_areBeside p0 p1 σ = some (v, σ')) : PR 166 [.ref 19, .int p0, .int p1] σ (some (.int v)) σ' := by
  refine PR.enter (L := [some (.ref 19), some (.int p0), some (.int p1), none, none]) uT_166 uD_166 rfl rfl ?_
  unfold F_X5_areBeside at h
  refine RU.blk (C' := (5, [some (.ref 19), some (.int p0), some (.int p1), none, none], [.int (gI σ 1217), .int p0], σ)) 3 rfl ?_
  obtain ⟨hv, h⟩ := cnd_e h
  refine RU.idiv rfl hv ?_
  refine RU.blk (C' := (11, [some (.ref 19), some (.int p0), some (.int p1), none, none], [.int (gI σ 1217), .int p1, .int (irem p0 (gI σ 1217))], σ)) 3 rfl ?_
  obtain ⟨hv, h⟩ := cnd_e h
  refine RU.idiv rfl hv ?_
  refine RU.blk (C' := (19, [some (.ref 19), some (.int p0), some (.int p1), some (.int ((irem p0 (gI σ 1217)) - (irem p1 (gI σ 1217)))), none], [.int (gI σ 1217), .int p0], σ)) 5 rfl ?_
  obtain ⟨hv, h⟩ := cnd_e h
  refine RU.idiv rfl hv ?_
  refine RU.blk (C' := (25, [some (.ref 19), some (.int p0), some (.int p1), some (.int ((irem p0 (gI σ 1217)) - (irem p1 (gI σ 1217)))), none], [.int (gI σ 1217), .int p1, .int (p0 / (gI σ 1217))], σ)) 3 rfl ?_
  obtain ⟨hv, h⟩ := cnd_e h
  refine RU.idiv rfl hv ?_
  refine RU.blk (C' := (bif cNe ((((irem p0 (gI σ 1217)) - (irem p1 (gI σ 1217))) * ((irem p0 (gI σ 1217)) - (irem p1 (gI σ 1217)))) + (((p0 / (gI σ 1217)) - (p1 / (gI σ 1217))) * ((p0 / (gI σ 1217)) - (p1 / (gI σ 1217))))) (1) then 46 else 42, [some (.ref 19), some (.int p0), some (.int p1), some (.int ((irem p0 (gI σ 1217)) - (irem p1 (gI σ 1217)))), some (.int ((p0 / (gI σ 1217)) - (p1 / (gI σ 1217))))], [], σ)) 11 rfl ?_
  rcases cnd_some h with ⟨hc, h⟩ | ⟨hc, h⟩
  · refine RU.tt hc ?_
    refine RU.blk (C' := (47, [some (.ref 19), some (.int p0), some (.int p1), some (.int ((irem p0 (gI σ 1217)) - (irem p1 (gI σ 1217)))), some (.int ((p0 / (gI σ 1217)) - (p1 / (gI σ 1217))))], [.int (0)], σ)) 1 rfl ?_
    obtain ⟨rfl, rfl⟩ := ret_inj h
    exact RU.ret rfl rfl rfl
  · refine RU.ff hc ?_
    refine RU.blk (C' := (47, [some (.ref 19), some (.int p0), some (.int p1), some (.int ((irem p0 (gI σ 1217)) - (irem p1 (gI σ 1217)))), some (.int ((p0 / (gI σ 1217)) - (p1 / (gI σ 1217))))], [.int (1)], σ)) 2 rfl ?_
    obtain ⟨rfl, rfl⟩ := ret_inj h
    exact RU.ret rfl rfl rfl
noncomputable def L_X5_flat  : Nat → Nat → Int32 → Int64 → Int32 → Int32 → Int32 → PS → Option (Int32 × PS)
  | 0, _, _, _, _, _, _, _ => none
  | n + 1, hd, x1, y2, x4, x5, x6, σ => 
    bif Nat.beq hd 17 then (
      bif cGe x4 ((gI σ 1217) * (gI σ 1218)) then (
        (F_X5_bits y2 σ).bind fun q1 =>
        let v1 := q1.1
        let s1 := q1.2
        some (v1, s1)
      ) else (
        L_X5_flat n  34 x1 y2 x4 (0) 0 σ
      )
    ) else
    bif Nat.beq hd 34 then (
      bif cGe x5 ((gI σ 1217) * (gI σ 1218)) then (
        L_X5_flat n  17 x1 y2 (x4 + (1)) 0 0 σ
      ) else (
        L_X5_flat n  51 x1 y2 x4 x5 (0) σ
      )
    ) else
    bif Nat.beq hd 51 then (
      bif cGe x6 ((gI σ 1217) * (gI σ 1218)) then (
        L_X5_flat n  34 x1 y2 x4 (x5 + (1)) 0 σ
      ) else (
        bif cNe (lg_cmp ((lshr y2 x5) &&& 1) 1) 0 then (
          L_X5_flat n  51 x1 (y2 ||| 0) x4 x5 (x6 + (1)) σ
        ) else (
          (F_X5_areBeside x5 x6 σ).bind fun q2 =>
          let v2 := q2.1
          let s2 := q2.2
          bif cEq v2 0 then (
            L_X5_flat n  51 x1 (y2 ||| 0) x4 x5 (x6 + (1)) s2
          ) else (
            bif vin x6 36 then
            bif vin x1 36 then
            bif cNe (gA s2 20 (Int32.toNatClampNeg x6)) (gA s2 20 (Int32.toNatClampNeg x1)) then (
              L_X5_flat n  51 x1 (y2 ||| 0) x4 x5 (x6 + (1)) s2
            ) else (
              L_X5_flat n  51 x1 (y2 ||| (lshl 1 x6)) x4 x5 (x6 + (1)) s2
            )
            else none
            else none
          )
        )
      )
    ) else
    none
set_option maxRecDepth 50000 in
theorem ml_X5_flat  (n : Nat) : (∀ (x1 : Int32) (y2 : Int64) (x4 : Int32) (u5 : Option Value) (u6 : Option Value) (u7 : Option Value) (σ : PS) (v : Int32) (σ' : PS), L_X5_flat n 17 x1 y2 x4 0 0 σ = some (v, σ') → RU ubX5_flat 2 46 (17, [some (.ref 19), some (.int x1), some (.long y2), none, some (.int x4), u5, u6, u7], [], σ) (some (.int v)) σ') ∧ (∀ (x1 : Int32) (y2 : Int64) (x4 : Int32) (x5 : Int32) (u6 : Option Value) (u7 : Option Value) (σ : PS) (v : Int32) (σ' : PS), L_X5_flat n 34 x1 y2 x4 x5 0 σ = some (v, σ') → RU ubX5_flat 2 46 (34, [some (.ref 19), some (.int x1), some (.long y2), none, some (.int x4), some (.int x5), u6, u7], [], σ) (some (.int v)) σ') ∧ (∀ (x1 : Int32) (y2 : Int64) (x4 : Int32) (x5 : Int32) (x6 : Int32) (u7 : Option Value) (σ : PS) (v : Int32) (σ' : PS), L_X5_flat n 51 x1 y2 x4 x5 x6 σ = some (v, σ') → RU ubX5_flat 2 46 (51, [some (.ref 19), some (.int x1), some (.long y2), none, some (.int x4), some (.int x5), some (.int x6), u7], [], σ) (some (.int v)) σ') := by
  induction n with
  | zero =>
    refine ⟨?_, ?_, ?_⟩
    · intro x1 y2 x4 u5 u6 u7 σ v σ' h; exact absurd (show (none : Option (Int32 × PS)) = some (v, σ') from h) (by simp)
    · intro x1 y2 x4 x5 u6 u7 σ v σ' h; exact absurd (show (none : Option (Int32 × PS)) = some (v, σ') from h) (by simp)
    · intro x1 y2 x4 x5 x6 u7 σ v σ' h; exact absurd (show (none : Option (Int32 × PS)) = some (v, σ') from h) (by simp)
  | succ n ih =>
    refine ⟨?_, ?_, ?_⟩
    · intro x1 y2 x4 u5 u6 u7 σ v σ' h
      rw [L_X5_flat] at h
      rcases cnd_some h with ⟨hc, h⟩ | ⟨hc, h⟩
      rotate_left
      · exact absurd hc (by decide)
      refine RU.blk (C' := (bif cGe x4 ((gI σ 1217) * (gI σ 1218)) then 144 else 31, [some (.ref 19), some (.int x1), some (.long y2), none, some (.int x4), none, none, none], [], σ)) 7 rfl ?_
      rcases cnd_some h with ⟨hc, h⟩ | ⟨hc, h⟩
      · refine RU.tt hc ?_
        refine RU.blk (C' := (145, [some (.ref 19), some (.int x1), some (.long y2), none, some (.int x4), none, none, none], [.long y2], σ)) 1 rfl ?_
        obtain ⟨⟨v1, s1⟩, hk, h⟩ := Option.bind_eq_some_iff.mp h
        dsimp only at h
        refine RU.call (as := [.long y2]) (rest := []) (u := some (.int v1)) (C' := (148, [some (.ref 19), some (.int x1), some (.long y2), none, some (.int x4), none, none, none], [.int v1], s1)) rfl rfl (m_X5_bits y2 σ hk) rfl rfl ?_
        obtain ⟨rfl, rfl⟩ := ret_inj h
        exact RU.ret rfl rfl rfl
      · refine RU.ff hc ?_
        refine RU.blk (C' := (34, [some (.ref 19), some (.int x1), some (.long y2), none, some (.int x4), some (.int (0)), none, none], [], σ)) 2 rfl ?_
        exact ih.2.1 x1 y2 x4 (0) none none _ _ _ h
    · intro x1 y2 x4 x5 u6 u7 σ v σ' h
      rw [L_X5_flat] at h
      rcases cnd_some h with ⟨hc, h⟩ | ⟨hc, h⟩
      · exact absurd hc (by decide)
      rcases cnd_some h with ⟨hc, h⟩ | ⟨hc, h⟩
      rotate_left
      · exact absurd hc (by decide)
      refine RU.blk (C' := (bif cGe x5 ((gI σ 1217) * (gI σ 1218)) then 138 else 48, [some (.ref 19), some (.int x1), some (.long y2), none, some (.int x4), some (.int x5), none, none], [], σ)) 7 rfl ?_
      rcases cnd_some h with ⟨hc, h⟩ | ⟨hc, h⟩
      · refine RU.tt hc ?_
        refine RU.blk (C' := (17, [some (.ref 19), some (.int x1), some (.long y2), none, some (.int (x4 + (1))), some (.int x5), none, none], [], σ)) 2 rfl ?_
        exact ih.1 x1 y2 (x4 + (1)) (some (.int x5)) none none _ _ _ h
      · refine RU.ff hc ?_
        refine RU.blk (C' := (51, [some (.ref 19), some (.int x1), some (.long y2), none, some (.int x4), some (.int x5), some (.int (0)), none], [], σ)) 2 rfl ?_
        exact ih.2.2 x1 y2 x4 x5 (0) none _ _ _ h
    · intro x1 y2 x4 x5 x6 u7 σ v σ' h
      rw [L_X5_flat] at h
      rcases cnd_some h with ⟨hc, h⟩ | ⟨hc, h⟩
      · exact absurd hc (by decide)
      rcases cnd_some h with ⟨hc, h⟩ | ⟨hc, h⟩
      · exact absurd hc (by decide)
      rcases cnd_some h with ⟨hc, h⟩ | ⟨hc, h⟩
      rotate_left
      · exact absurd hc (by decide)
      refine RU.blk (C' := (bif cGe x6 ((gI σ 1217) * (gI σ 1218)) then 132 else 65, [some (.ref 19), some (.int x1), some (.long y2), none, some (.int x4), some (.int x5), some (.int x6), none], [], σ)) 7 rfl ?_
      rcases cnd_some h with ⟨hc, h⟩ | ⟨hc, h⟩
      · refine RU.tt hc ?_
        refine RU.blk (C' := (34, [some (.ref 19), some (.int x1), some (.long y2), none, some (.int x4), some (.int (x5 + (1))), some (.int x6), none], [], σ)) 2 rfl ?_
        exact ih.2.1 x1 y2 x4 (x5 + (1)) (some (.int x6)) none _ _ _ h
      · refine RU.ff hc ?_
        refine RU.blk (C' := (bif cNe (lg_cmp ((lshr y2 x5) &&& 1) 1) 0 then 107 else 76, [some (.ref 19), some (.int x1), some (.long y2), none, some (.int x4), some (.int x5), some (.int x6), none], [], σ)) 8 rfl ?_
        rcases cnd_some h with ⟨hc, h⟩ | ⟨hc, h⟩
        · refine RU.tt hc ?_
          refine RU.blk (C' := (51, [some (.ref 19), some (.int x1), some (.long (y2 ||| 0)), none, some (.int x4), some (.int x5), some (.int (x6 + (1))), some (.int (0))], [], σ)) 10 rfl ?_
          exact ih.2.2 x1 (y2 ||| 0) x4 x5 (x6 + (1)) (some (.int (0))) _ _ _ h
        · refine RU.ff hc ?_
          refine RU.blk (C' := (81, [some (.ref 19), some (.int x1), some (.long y2), none, some (.int x4), some (.int x5), some (.int x6), none], [.int x6, .int x5, .ref 19], σ)) 3 rfl ?_
          obtain ⟨⟨v2, s2⟩, hk, h⟩ := Option.bind_eq_some_iff.mp h
          dsimp only at h
          refine RU.call (as := [.ref 19, .int x5, .int x6]) (rest := []) (u := some (.int v2)) (C' := (84, [some (.ref 19), some (.int x1), some (.long y2), none, some (.int x4), some (.int x5), some (.int x6), none], [.int v2], s2)) rfl rfl (m_X5_areBeside x5 x6 σ hk) rfl rfl ?_
          refine RU.blk (C' := (bif cEq v2 0 then 107 else 87, [some (.ref 19), some (.int x1), some (.long y2), none, some (.int x4), some (.int x5), some (.int x6), none], [], s2)) 1 rfl ?_
          rcases cnd_some h with ⟨hc, h⟩ | ⟨hc, h⟩
          · refine RU.tt hc ?_
            refine RU.blk (C' := (51, [some (.ref 19), some (.int x1), some (.long (y2 ||| 0)), none, some (.int x4), some (.int x5), some (.int (x6 + (1))), some (.int (0))], [], s2)) 10 rfl ?_
            exact ih.2.2 x1 (y2 ||| 0) x4 x5 (x6 + (1)) (some (.int (0))) _ _ _ h
          · refine RU.ff hc ?_
            refine RU.blk (C' := (93, [some (.ref 19), some (.int x1), some (.long y2), none, some (.int x4), some (.int x5), some (.int x6), none], [.int x6, .ref 20], s2)) 3 rfl ?_
            obtain ⟨hv, h⟩ := cnd_n h
            refine RU.iald (N := 36) rfl rfl hv ?_
            refine RU.blk (C' := (99, [some (.ref 19), some (.int x1), some (.long y2), none, some (.int x4), some (.int x5), some (.int x6), none], [.int x1, .ref 20, .int (gA s2 20 (Int32.toNatClampNeg x6))], s2)) 3 rfl ?_
            obtain ⟨hv, h⟩ := cnd_n h
            refine RU.iald (N := 36) rfl rfl hv ?_
            refine RU.blk (C' := (bif cNe (gA s2 20 (Int32.toNatClampNeg x6)) (gA s2 20 (Int32.toNatClampNeg x1)) then 107 else 103, [some (.ref 19), some (.int x1), some (.long y2), none, some (.int x4), some (.int x5), some (.int x6), none], [], s2)) 1 rfl ?_
            rcases cnd_some h with ⟨hc, h⟩ | ⟨hc, h⟩
            · refine RU.tt hc ?_
              refine RU.blk (C' := (51, [some (.ref 19), some (.int x1), some (.long (y2 ||| 0)), none, some (.int x4), some (.int x5), some (.int (x6 + (1))), some (.int (0))], [], s2)) 10 rfl ?_
              exact ih.2.2 x1 (y2 ||| 0) x4 x5 (x6 + (1)) (some (.int (0))) _ _ _ h
            · refine RU.ff hc ?_
              refine RU.blk (C' := (51, [some (.ref 19), some (.int x1), some (.long (y2 ||| (lshl 1 x6))), none, some (.int x4), some (.int x5), some (.int (x6 + (1))), some (.int (1))], [], s2)) 14 rfl ?_
              exact ih.2.2 x1 (y2 ||| (lshl 1 x6)) x4 x5 (x6 + (1)) (some (.int (1))) _ _ _ h
noncomputable def F_X5_flat (p0 : Int32) (σ : PS) : Option (Int32 × PS) :=
  (F_X5_noPlace p0 σ).bind fun q3 =>
  let v3 := q3.1
  let s3 := q3.2
  bif cEq v3 0 then (
    L_X5_flat fuelN  17 p0 (lshl 1 p0) (0) 0 0 s3
  ) else (
    some ((-1), s3)
  )
set_option maxRecDepth 50000 in
theorem m_X5_flat (p0 : Int32) (σ : PS) {v : Int32} {σ' : PS} (h : F_X5_flat p0 σ = some (v, σ')) : PR 167 [.ref 19, .int p0] σ (some (.int v)) σ' := by
  refine PR.enter (L := [some (.ref 19), some (.int p0), none, none, none, none, none, none]) uT_167 uD_167 rfl rfl ?_
  unfold F_X5_flat at h
  refine RU.blk (C' := (2, [some (.ref 19), some (.int p0), none, none, none, none, none, none], [.int p0, .ref 19], σ)) 2 rfl ?_
  obtain ⟨⟨v3, s3⟩, hk, h⟩ := Option.bind_eq_some_iff.mp h
  dsimp only at h
  refine RU.call (as := [.ref 19, .int p0]) (rest := []) (u := some (.int v3)) (C' := (5, [some (.ref 19), some (.int p0), none, none, none, none, none, none], [.int v3], s3)) rfl rfl (m_X5_noPlace p0 σ hk) rfl rfl ?_
  refine RU.blk (C' := (bif cEq v3 0 then 10 else 8, [some (.ref 19), some (.int p0), none, none, none, none, none, none], [], s3)) 1 rfl ?_
  rcases cnd_some h with ⟨hc, h⟩ | ⟨hc, h⟩
  · refine RU.tt hc ?_
    refine RU.blk (C' := (17, [some (.ref 19), some (.int p0), some (.long (lshl 1 p0)), none, some (.int (0)), none, none, none], [], s3)) 6 rfl ?_
    exact (ml_X5_flat fuelN).1 p0 (lshl 1 p0) (0) none none none _ _ _ h
  · refine RU.ff hc ?_
    refine RU.blk (C' := (9, [some (.ref 19), some (.int p0), none, none, none, none, none, none], [.int (-1)], s3)) 1 rfl ?_
    obtain ⟨rfl, rfl⟩ := ret_inj h
    exact RU.ret rfl rfl rfl
noncomputable def L_X5_begins  : Nat → Nat → Int32 → Int32 → Int32 → Int32 → Int32 → Int32 → Int32 → Int32 → Int32 → Int32 → PS → Option (Int32 × PS)
  | 0, _, _, _, _, _, _, _, _, _, _, _, _ => none
  | n + 1, hd, x1, x2, x3, x4, x5, x6, x7, x8, x9, x10, σ => 
    bif Nat.beq hd 6 then (
      bif cGe x7 x2 then (
        bif okb x6 then some (x6, σ) else none
      ) else (
        bif cEq x6 0 then (
          bif okb x6 then some (x6, σ) else none
        ) else (
          (F_X5_columnBy x3 σ).bind fun q1 =>
          let v1 := q1.1
          let s1 := q1.2
          (F_X5_rowBy x3 s1).bind fun q2 =>
          let v2 := q2.1
          let s2 := q2.2
          (F_X5_isPlace (x4 + (x7 * v1)) (x5 + (x7 * v2)) s2).bind fun q3 =>
          let v3 := q3.1
          let s3 := q3.2
          L_X5_begins n  54 x1 x2 x3 x4 x5 v3 x7 (x4 + (x7 * v1)) (x5 + (x7 * v2)) (0) s3
        )
      )
    ) else
    bif Nat.beq hd 54 then (
      bif cGe x10 (gI σ 1219) then (
        L_X5_begins n  6 x1 x2 x3 x4 x5 x6 (x7 + (1)) 0 0 0 σ
      ) else (
        bif cEq x6 0 then (
          L_X5_begins n  6 x1 x2 x3 x4 x5 x6 (x7 + (1)) 0 0 0 σ
        ) else (
          (F_X5_isIn (gI σ 1223) x10 σ).bind fun q4 =>
          let v4 := q4.1
          let s4 := q4.2
          bif cNe v4 0 then (
            L_X5_begins n  54 x1 x2 x3 x4 x5 (1) x7 x8 x9 (x10 + (1)) s4
          ) else (
            bif vin ((((gI s4 1217) * x9) + x8) + x10) 36 then
            (F_X5_tells x10 (gA s4 20 (Int32.toNatClampNeg ((((gI s4 1217) * x9) + x8) + x10))) s4).bind fun q5 =>
            let v5 := q5.1
            let s5 := q5.2
            bif vin ((x1 + ((gI s5 1219) * x7)) + x10) 240 then
            bif cNe v5 (gA s5 32 (Int32.toNatClampNeg ((x1 + ((gI s5 1219) * x7)) + x10))) then (
              L_X5_begins n  54 x1 x2 x3 x4 x5 (0) x7 x8 x9 (x10 + (1)) s5
            ) else (
              L_X5_begins n  54 x1 x2 x3 x4 x5 (1) x7 x8 x9 (x10 + (1)) s5
            )
            else none
            else none
          )
        )
      )
    ) else
    none
set_option maxRecDepth 50000 in
theorem ml_X5_begins  (n : Nat) : (∀ (x1 : Int32) (x2 : Int32) (x3 : Int32) (x4 : Int32) (x5 : Int32) (x6 : Int32) (x7 : Int32) (u8 : Option Value) (u9 : Option Value) (u10 : Option Value) (σ : PS) (v : Int32) (σ' : PS), L_X5_begins n 6 x1 x2 x3 x4 x5 x6 x7 0 0 0 σ = some (v, σ') → RU ubX5_begins 2 47 (6, [some (.ref 19), some (.int x1), some (.int x2), some (.int x3), some (.int x4), some (.int x5), some (.int x6), some (.int x7), u8, u9, u10], [], σ) (some (.int v)) σ') ∧ (∀ (x1 : Int32) (x2 : Int32) (x3 : Int32) (x4 : Int32) (x5 : Int32) (x6 : Int32) (x7 : Int32) (x8 : Int32) (x9 : Int32) (x10 : Int32) (σ : PS) (v : Int32) (σ' : PS), L_X5_begins n 54 x1 x2 x3 x4 x5 x6 x7 x8 x9 x10 σ = some (v, σ') → RU ubX5_begins 2 47 (54, [some (.ref 19), some (.int x1), some (.int x2), some (.int x3), some (.int x4), some (.int x5), some (.int x6), some (.int x7), some (.int x8), some (.int x9), some (.int x10)], [], σ) (some (.int v)) σ') := by
  induction n with
  | zero =>
    refine ⟨?_, ?_⟩
    · intro x1 x2 x3 x4 x5 x6 x7 u8 u9 u10 σ v σ' h; exact absurd (show (none : Option (Int32 × PS)) = some (v, σ') from h) (by simp)
    · intro x1 x2 x3 x4 x5 x6 x7 x8 x9 x10 σ v σ' h; exact absurd (show (none : Option (Int32 × PS)) = some (v, σ') from h) (by simp)
  | succ n ih =>
    refine ⟨?_, ?_⟩
    · intro x1 x2 x3 x4 x5 x6 x7 u8 u9 u10 σ v σ' h
      rw [L_X5_begins] at h
      rcases cnd_some h with ⟨hc, h⟩ | ⟨hc, h⟩
      rotate_left
      · exact absurd hc (by decide)
      refine RU.blk (C' := (bif cGe x7 x2 then 143 else 12, [some (.ref 19), some (.int x1), some (.int x2), some (.int x3), some (.int x4), some (.int x5), some (.int x6), some (.int x7), none, none, none], [], σ)) 3 rfl ?_
      rcases cnd_some h with ⟨hc, h⟩ | ⟨hc, h⟩
      · refine RU.tt hc ?_
        refine RU.blk (C' := (145, [some (.ref 19), some (.int x1), some (.int x2), some (.int x3), some (.int x4), some (.int x5), some (.int x6), some (.int x7), none, none, none], [.int x6], σ)) 1 rfl ?_
        obtain ⟨hb, h⟩ := cnd_n h
        obtain ⟨rfl, rfl⟩ := ret_inj h
        exact RU.ret rfl (pret_b hb) rfl
      · refine RU.ff hc ?_
        refine RU.blk (C' := (bif cEq x6 0 then 143 else 17, [some (.ref 19), some (.int x1), some (.int x2), some (.int x3), some (.int x4), some (.int x5), some (.int x6), some (.int x7), none, none, none], [], σ)) 2 rfl ?_
        rcases cnd_some h with ⟨hc, h⟩ | ⟨hc, h⟩
        · refine RU.tt hc ?_
          refine RU.blk (C' := (145, [some (.ref 19), some (.int x1), some (.int x2), some (.int x3), some (.int x4), some (.int x5), some (.int x6), some (.int x7), none, none, none], [.int x6], σ)) 1 rfl ?_
          obtain ⟨hb, h⟩ := cnd_n h
          obtain ⟨rfl, rfl⟩ := ret_inj h
          exact RU.ret rfl (pret_b hb) rfl
        · refine RU.ff hc ?_
          refine RU.blk (C' := (22, [some (.ref 19), some (.int x1), some (.int x2), some (.int x3), some (.int x4), some (.int x5), some (.int x6), some (.int x7), none, none, none], [.int x3, .int x7, .int x4], σ)) 3 rfl ?_
          obtain ⟨⟨v1, s1⟩, hk, h⟩ := Option.bind_eq_some_iff.mp h
          dsimp only at h
          refine RU.call (as := [.int x3]) (rest := [.int x7, .int x4]) (u := some (.int v1)) (C' := (25, [some (.ref 19), some (.int x1), some (.int x2), some (.int x3), some (.int x4), some (.int x5), some (.int x6), some (.int x7), none, none, none], [.int v1, .int x7, .int x4], s1)) rfl rfl (m_X5_columnBy x3 σ hk) rfl rfl ?_
          refine RU.blk (C' := (34, [some (.ref 19), some (.int x1), some (.int x2), some (.int x3), some (.int x4), some (.int x5), some (.int x6), some (.int x7), some (.int (x4 + (x7 * v1))), none, none], [.int x3, .int x7, .int x5], s1)) 6 rfl ?_
          obtain ⟨⟨v2, s2⟩, hk, h⟩ := Option.bind_eq_some_iff.mp h
          dsimp only at h
          refine RU.call (as := [.int x3]) (rest := [.int x7, .int x5]) (u := some (.int v2)) (C' := (37, [some (.ref 19), some (.int x1), some (.int x2), some (.int x3), some (.int x4), some (.int x5), some (.int x6), some (.int x7), some (.int (x4 + (x7 * v1))), none, none], [.int v2, .int x7, .int x5], s2)) rfl rfl (m_X5_rowBy x3 s1 hk) rfl rfl ?_
          refine RU.blk (C' := (46, [some (.ref 19), some (.int x1), some (.int x2), some (.int x3), some (.int x4), some (.int x5), some (.int x6), some (.int x7), some (.int (x4 + (x7 * v1))), some (.int (x5 + (x7 * v2))), none], [.int (x5 + (x7 * v2)), .int (x4 + (x7 * v1)), .ref 19], s2)) 6 rfl ?_
          obtain ⟨⟨v3, s3⟩, hk, h⟩ := Option.bind_eq_some_iff.mp h
          dsimp only at h
          refine RU.call (as := [.ref 19, .int (x4 + (x7 * v1)), .int (x5 + (x7 * v2))]) (rest := []) (u := some (.int v3)) (C' := (49, [some (.ref 19), some (.int x1), some (.int x2), some (.int x3), some (.int x4), some (.int x5), some (.int x6), some (.int x7), some (.int (x4 + (x7 * v1))), some (.int (x5 + (x7 * v2))), none], [.int v3], s3)) rfl rfl (m_X5_isPlace (x4 + (x7 * v1)) (x5 + (x7 * v2)) s2 hk) rfl rfl ?_
          refine RU.blk (C' := (54, [some (.ref 19), some (.int x1), some (.int x2), some (.int x3), some (.int x4), some (.int x5), some (.int v3), some (.int x7), some (.int (x4 + (x7 * v1))), some (.int (x5 + (x7 * v2))), some (.int (0))], [], s3)) 3 rfl ?_
          exact ih.2 x1 x2 x3 x4 x5 v3 x7 (x4 + (x7 * v1)) (x5 + (x7 * v2)) (0) _ _ _ h
    · intro x1 x2 x3 x4 x5 x6 x7 x8 x9 x10 σ v σ' h
      rw [L_X5_begins] at h
      rcases cnd_some h with ⟨hc, h⟩ | ⟨hc, h⟩
      · exact absurd hc (by decide)
      rcases cnd_some h with ⟨hc, h⟩ | ⟨hc, h⟩
      rotate_left
      · exact absurd hc (by decide)
      refine RU.blk (C' := (bif cGe x10 (gI σ 1219) then 137 else 63, [some (.ref 19), some (.int x1), some (.int x2), some (.int x3), some (.int x4), some (.int x5), some (.int x6), some (.int x7), some (.int x8), some (.int x9), some (.int x10)], [], σ)) 4 rfl ?_
      rcases cnd_some h with ⟨hc, h⟩ | ⟨hc, h⟩
      · refine RU.tt hc ?_
        refine RU.blk (C' := (6, [some (.ref 19), some (.int x1), some (.int x2), some (.int x3), some (.int x4), some (.int x5), some (.int x6), some (.int (x7 + (1))), some (.int x8), some (.int x9), some (.int x10)], [], σ)) 2 rfl ?_
        exact ih.1 x1 x2 x3 x4 x5 x6 (x7 + (1)) (some (.int x8)) (some (.int x9)) (some (.int x10)) _ _ _ h
      · refine RU.ff hc ?_
        refine RU.blk (C' := (bif cEq x6 0 then 137 else 68, [some (.ref 19), some (.int x1), some (.int x2), some (.int x3), some (.int x4), some (.int x5), some (.int x6), some (.int x7), some (.int x8), some (.int x9), some (.int x10)], [], σ)) 2 rfl ?_
        rcases cnd_some h with ⟨hc, h⟩ | ⟨hc, h⟩
        · refine RU.tt hc ?_
          refine RU.blk (C' := (6, [some (.ref 19), some (.int x1), some (.int x2), some (.int x3), some (.int x4), some (.int x5), some (.int x6), some (.int (x7 + (1))), some (.int x8), some (.int x9), some (.int x10)], [], σ)) 2 rfl ?_
          exact ih.1 x1 x2 x3 x4 x5 x6 (x7 + (1)) (some (.int x8)) (some (.int x9)) (some (.int x10)) _ _ _ h
        · refine RU.ff hc ?_
          refine RU.blk (C' := (74, [some (.ref 19), some (.int x1), some (.int x2), some (.int x3), some (.int x4), some (.int x5), some (.int x6), some (.int x7), some (.int x8), some (.int x9), some (.int x10)], [.int x10, .int (gI σ 1223)], σ)) 3 rfl ?_
          obtain ⟨⟨v4, s4⟩, hk, h⟩ := Option.bind_eq_some_iff.mp h
          dsimp only at h
          refine RU.call (as := [.int (gI σ 1223), .int x10]) (rest := []) (u := some (.int v4)) (C' := (77, [some (.ref 19), some (.int x1), some (.int x2), some (.int x3), some (.int x4), some (.int x5), some (.int x6), some (.int x7), some (.int x8), some (.int x9), some (.int x10)], [.int v4], s4)) rfl rfl (m_X5_isIn (gI σ 1223) x10 σ hk) rfl rfl ?_
          refine RU.blk (C' := (bif cNe v4 0 then 124 else 80, [some (.ref 19), some (.int x1), some (.int x2), some (.int x3), some (.int x4), some (.int x5), some (.int x6), some (.int x7), some (.int x8), some (.int x9), some (.int x10)], [], s4)) 1 rfl ?_
          rcases cnd_some h with ⟨hc, h⟩ | ⟨hc, h⟩
          · refine RU.tt hc ?_
            refine RU.blk (C' := (54, [some (.ref 19), some (.int x1), some (.int x2), some (.int x3), some (.int x4), some (.int x5), some (.int (1)), some (.int x7), some (.int x8), some (.int x9), some (.int (x10 + (1)))], [], s4)) 5 rfl ?_
            exact ih.2 x1 x2 x3 x4 x5 (1) x7 x8 x9 (x10 + (1)) _ _ _ h
          · refine RU.ff hc ?_
            refine RU.blk (C' := (100, [some (.ref 19), some (.int x1), some (.int x2), some (.int x3), some (.int x4), some (.int x5), some (.int x6), some (.int x7), some (.int x8), some (.int x9), some (.int x10)], [.int ((((gI s4 1217) * x9) + x8) + x10), .ref 20, .int x10, .ref 19], s4)) 12 rfl ?_
            obtain ⟨hv, h⟩ := cnd_n h
            refine RU.iald (N := 36) rfl rfl hv ?_
            obtain ⟨⟨v5, s5⟩, hk, h⟩ := Option.bind_eq_some_iff.mp h
            dsimp only at h
            refine RU.call (as := [.ref 19, .int x10, .int (gA s4 20 (Int32.toNatClampNeg ((((gI s4 1217) * x9) + x8) + x10)))]) (rest := []) (u := some (.int v5)) (C' := (104, [some (.ref 19), some (.int x1), some (.int x2), some (.int x3), some (.int x4), some (.int x5), some (.int x6), some (.int x7), some (.int x8), some (.int x9), some (.int x10)], [.int v5], s5)) rfl rfl (m_X5_tells x10 (gA s4 20 (Int32.toNatClampNeg ((((gI s4 1217) * x9) + x8) + x10))) s4 hk) rfl rfl ?_
            refine RU.blk (C' := (120, [some (.ref 19), some (.int x1), some (.int x2), some (.int x3), some (.int x4), some (.int x5), some (.int x6), some (.int x7), some (.int x8), some (.int x9), some (.int x10)], [.int ((x1 + ((gI s5 1219) * x7)) + x10), .ref 32, .int v5], s5)) 10 rfl ?_
            obtain ⟨hv, h⟩ := cnd_n h
            refine RU.iald (N := 240) rfl rfl hv ?_
            refine RU.blk (C' := (bif cNe v5 (gA s5 32 (Int32.toNatClampNeg ((x1 + ((gI s5 1219) * x7)) + x10))) then 128 else 124, [some (.ref 19), some (.int x1), some (.int x2), some (.int x3), some (.int x4), some (.int x5), some (.int x6), some (.int x7), some (.int x8), some (.int x9), some (.int x10)], [], s5)) 1 rfl ?_
            rcases cnd_some h with ⟨hc, h⟩ | ⟨hc, h⟩
            · refine RU.tt hc ?_
              refine RU.blk (C' := (54, [some (.ref 19), some (.int x1), some (.int x2), some (.int x3), some (.int x4), some (.int x5), some (.int (0)), some (.int x7), some (.int x8), some (.int x9), some (.int (x10 + (1)))], [], s5)) 4 rfl ?_
              exact ih.2 x1 x2 x3 x4 x5 (0) x7 x8 x9 (x10 + (1)) _ _ _ h
            · refine RU.ff hc ?_
              refine RU.blk (C' := (54, [some (.ref 19), some (.int x1), some (.int x2), some (.int x3), some (.int x4), some (.int x5), some (.int (1)), some (.int x7), some (.int x8), some (.int x9), some (.int (x10 + (1)))], [], s5)) 5 rfl ?_
              exact ih.2 x1 x2 x3 x4 x5 (1) x7 x8 x9 (x10 + (1)) _ _ _ h
noncomputable def F_X5_begins (p0 : Int32) (p1 : Int32) (p2 : Int32) (p3 : Int32) (p4 : Int32) (σ : PS) : Option (Int32 × PS) :=
  L_X5_begins fuelN  6 p0 p1 p2 p3 p4 (1) (0) 0 0 0 σ
set_option maxRecDepth 50000 in
theorem m_X5_begins (p0 : Int32) (p1 : Int32) (p2 : Int32) (p3 : Int32) (p4 : Int32) (σ : PS) {v : Int32} {σ' : PS} (h : F_X5_begins p0 p1 p2 p3 p4 σ = some (v, σ')) : PR 168 [.ref 19, .int p0, .int p1, .int p2, .int p3, .int p4] σ (some (.int v)) σ' := by
  refine PR.enter (L := [some (.ref 19), some (.int p0), some (.int p1), some (.int p2), some (.int p3), some (.int p4), none, none, none, none, none]) uT_168 uD_168 rfl rfl ?_
  unfold F_X5_begins at h
  refine RU.blk (C' := (6, [some (.ref 19), some (.int p0), some (.int p1), some (.int p2), some (.int p3), some (.int p4), some (.int (1)), some (.int (0)), none, none, none], [], σ)) 4 rfl ?_
  exact (ml_X5_begins fuelN).1 p0 p1 p2 p3 p4 (1) (0) none none none _ _ _ h
noncomputable def L_X5_begunBy  : Nat → Nat → Int32 → Int32 → Int32 → Int32 → Int32 → Int32 → Int32 → Int32 → Int32 → PS → Option (Int32 × PS)
  | 0, _, _, _, _, _, _, _, _, _, _, _ => none
  | n + 1, hd, x1, x2, x3, x4, x5, x6, x7, x8, x9, σ => 
    bif Nat.beq hd 14 then (
      bif cGe x8 (gI σ 1218) then (
        bif cNe x4 0 then (
          bif cNe x4 (1) then (
            some (x7, σ)
          ) else (
            some (x6, σ)
          )
        ) else (
          some (x5, σ)
        )
      ) else (
        L_X5_begunBy n  26 x1 x2 x3 x4 x5 x6 x7 x8 (0) σ
      )
    ) else
    bif Nat.beq hd 26 then (
      bif cGt x9 ((gI σ 1217) - (gI σ 1219)) then (
        L_X5_begunBy n  14 x1 x2 x3 x4 x5 x6 x7 (x8 + (1)) 0 σ
      ) else (
        (F_X5_begins x1 x2 x3 x9 x8 σ).bind fun q1 =>
        let v1 := q1.1
        let s1 := q1.2
        bif cEq v1 0 then (
          L_X5_begunBy n  26 x1 x2 x3 x4 x5 x6 x7 x8 (x9 + (1)) s1
        ) else (
          bif cGe x6 0 then (
            L_X5_begunBy n  26 x1 x2 x3 x4 (x5 + (1)) x6 (((gI s1 1217) * x8) + x9) x8 (x9 + (1)) s1
          ) else (
            L_X5_begunBy n  26 x1 x2 x3 x4 (x5 + (1)) (((gI s1 1217) * x8) + x9) (((gI s1 1217) * x8) + x9) x8 (x9 + (1)) s1
          )
        )
      )
    ) else
    none
set_option maxRecDepth 50000 in
theorem ml_X5_begunBy  (n : Nat) : (∀ (x1 : Int32) (x2 : Int32) (x3 : Int32) (x4 : Int32) (x5 : Int32) (x6 : Int32) (x7 : Int32) (x8 : Int32) (u9 : Option Value) (σ : PS) (v : Int32) (σ' : PS), L_X5_begunBy n 14 x1 x2 x3 x4 x5 x6 x7 x8 0 σ = some (v, σ') → RU ubX5_begunBy 3 77 (14, [some (.ref 19), some (.int x1), some (.int x2), some (.int x3), some (.int x4), some (.int x5), some (.int x6), some (.int x7), some (.int x8), u9], [], σ) (some (.int v)) σ') ∧ (∀ (x1 : Int32) (x2 : Int32) (x3 : Int32) (x4 : Int32) (x5 : Int32) (x6 : Int32) (x7 : Int32) (x8 : Int32) (x9 : Int32) (σ : PS) (v : Int32) (σ' : PS), L_X5_begunBy n 26 x1 x2 x3 x4 x5 x6 x7 x8 x9 σ = some (v, σ') → RU ubX5_begunBy 3 77 (26, [some (.ref 19), some (.int x1), some (.int x2), some (.int x3), some (.int x4), some (.int x5), some (.int x6), some (.int x7), some (.int x8), some (.int x9)], [], σ) (some (.int v)) σ') := by
  induction n with
  | zero =>
    refine ⟨?_, ?_⟩
    · intro x1 x2 x3 x4 x5 x6 x7 x8 u9 σ v σ' h; exact absurd (show (none : Option (Int32 × PS)) = some (v, σ') from h) (by simp)
    · intro x1 x2 x3 x4 x5 x6 x7 x8 x9 σ v σ' h; exact absurd (show (none : Option (Int32 × PS)) = some (v, σ') from h) (by simp)
  | succ n ih =>
    refine ⟨?_, ?_⟩
    · intro x1 x2 x3 x4 x5 x6 x7 x8 u9 σ v σ' h
      rw [L_X5_begunBy] at h
      rcases cnd_some h with ⟨hc, h⟩ | ⟨hc, h⟩
      rotate_left
      · exact absurd hc (by decide)
      refine RU.blk (C' := (bif cGe x8 (gI σ 1218) then 103 else 23, [some (.ref 19), some (.int x1), some (.int x2), some (.int x3), some (.int x4), some (.int x5), some (.int x6), some (.int x7), some (.int x8), none], [], σ)) 4 rfl ?_
      rcases cnd_some h with ⟨hc, h⟩ | ⟨hc, h⟩
      · refine RU.tt hc ?_
        refine RU.blk (C' := (bif cNe x4 0 then 113 else 108, [some (.ref 19), some (.int x1), some (.int x2), some (.int x3), some (.int x4), some (.int x5), some (.int x6), some (.int x7), some (.int x8), none], [], σ)) 2 rfl ?_
        rcases cnd_some h with ⟨hc, h⟩ | ⟨hc, h⟩
        · refine RU.tt hc ?_
          refine RU.blk (C' := (bif cNe x4 (1) then 124 else 119, [some (.ref 19), some (.int x1), some (.int x2), some (.int x3), some (.int x4), some (.int x5), some (.int x6), some (.int x7), some (.int x8), none], [], σ)) 3 rfl ?_
          rcases cnd_some h with ⟨hc, h⟩ | ⟨hc, h⟩
          · refine RU.tt hc ?_
            refine RU.blk (C' := (126, [some (.ref 19), some (.int x1), some (.int x2), some (.int x3), some (.int x4), some (.int x5), some (.int x6), some (.int x7), some (.int x8), none], [.int x7], σ)) 1 rfl ?_
            obtain ⟨rfl, rfl⟩ := ret_inj h
            exact RU.ret rfl rfl rfl
          · refine RU.ff hc ?_
            refine RU.blk (C' := (126, [some (.ref 19), some (.int x1), some (.int x2), some (.int x3), some (.int x4), some (.int x5), some (.int x6), some (.int x7), some (.int x8), none], [.int x6], σ)) 2 rfl ?_
            obtain ⟨rfl, rfl⟩ := ret_inj h
            exact RU.ret rfl rfl rfl
        · refine RU.ff hc ?_
          refine RU.blk (C' := (126, [some (.ref 19), some (.int x1), some (.int x2), some (.int x3), some (.int x4), some (.int x5), some (.int x6), some (.int x7), some (.int x8), none], [.int x5], σ)) 2 rfl ?_
          obtain ⟨rfl, rfl⟩ := ret_inj h
          exact RU.ret rfl rfl rfl
      · refine RU.ff hc ?_
        refine RU.blk (C' := (26, [some (.ref 19), some (.int x1), some (.int x2), some (.int x3), some (.int x4), some (.int x5), some (.int x6), some (.int x7), some (.int x8), some (.int (0))], [], σ)) 2 rfl ?_
        exact ih.2 x1 x2 x3 x4 x5 x6 x7 x8 (0) _ _ _ h
    · intro x1 x2 x3 x4 x5 x6 x7 x8 x9 σ v σ' h
      rw [L_X5_begunBy] at h
      rcases cnd_some h with ⟨hc, h⟩ | ⟨hc, h⟩
      · exact absurd hc (by decide)
      rcases cnd_some h with ⟨hc, h⟩ | ⟨hc, h⟩
      rotate_left
      · exact absurd hc (by decide)
      refine RU.blk (C' := (bif cGt x9 ((gI σ 1217) - (gI σ 1219)) then 97 else 40, [some (.ref 19), some (.int x1), some (.int x2), some (.int x3), some (.int x4), some (.int x5), some (.int x6), some (.int x7), some (.int x8), some (.int x9)], [], σ)) 7 rfl ?_
      rcases cnd_some h with ⟨hc, h⟩ | ⟨hc, h⟩
      · refine RU.tt hc ?_
        refine RU.blk (C' := (14, [some (.ref 19), some (.int x1), some (.int x2), some (.int x3), some (.int x4), some (.int x5), some (.int x6), some (.int x7), some (.int (x8 + (1))), some (.int x9)], [], σ)) 2 rfl ?_
        exact ih.1 x1 x2 x3 x4 x5 x6 x7 (x8 + (1)) (some (.int x9)) _ _ _ h
      · refine RU.ff hc ?_
        refine RU.blk (C' := (48, [some (.ref 19), some (.int x1), some (.int x2), some (.int x3), some (.int x4), some (.int x5), some (.int x6), some (.int x7), some (.int x8), some (.int x9)], [.int x8, .int x9, .int x3, .int x2, .int x1, .ref 19], σ)) 6 rfl ?_
        obtain ⟨⟨v1, s1⟩, hk, h⟩ := Option.bind_eq_some_iff.mp h
        dsimp only at h
        refine RU.call (as := [.ref 19, .int x1, .int x2, .int x3, .int x9, .int x8]) (rest := []) (u := some (.int v1)) (C' := (51, [some (.ref 19), some (.int x1), some (.int x2), some (.int x3), some (.int x4), some (.int x5), some (.int x6), some (.int x7), some (.int x8), some (.int x9)], [.int v1], s1)) rfl rfl (m_X5_begins x1 x2 x3 x9 x8 σ hk) rfl rfl ?_
        refine RU.blk (C' := (bif cEq v1 0 then 91 else 54, [some (.ref 19), some (.int x1), some (.int x2), some (.int x3), some (.int x4), some (.int x5), some (.int x6), some (.int x7), some (.int x8), some (.int x9)], [], s1)) 1 rfl ?_
        rcases cnd_some h with ⟨hc, h⟩ | ⟨hc, h⟩
        · refine RU.tt hc ?_
          refine RU.blk (C' := (26, [some (.ref 19), some (.int x1), some (.int x2), some (.int x3), some (.int x4), some (.int x5), some (.int x6), some (.int x7), some (.int x8), some (.int (x9 + (1)))], [], s1)) 2 rfl ?_
          exact ih.2 x1 x2 x3 x4 x5 x6 x7 x8 (x9 + (1)) _ _ _ h
        · refine RU.ff hc ?_
          refine RU.blk (C' := (bif cGe x6 0 then 75 else 62, [some (.ref 19), some (.int x1), some (.int x2), some (.int x3), some (.int x4), some (.int (x5 + (1))), some (.int x6), some (.int x7), some (.int x8), some (.int x9)], [], s1)) 3 rfl ?_
          rcases cnd_some h with ⟨hc, h⟩ | ⟨hc, h⟩
          · refine RU.tt hc ?_
            refine RU.blk (C' := (26, [some (.ref 19), some (.int x1), some (.int x2), some (.int x3), some (.int x4), some (.int (x5 + (1))), some (.int x6), some (.int (((gI s1 1217) * x8) + x9)), some (.int x8), some (.int (x9 + (1)))], [], s1)) 11 rfl ?_
            exact ih.2 x1 x2 x3 x4 (x5 + (1)) x6 (((gI s1 1217) * x8) + x9) x8 (x9 + (1)) _ _ _ h
          · refine RU.ff hc ?_
            refine RU.blk (C' := (26, [some (.ref 19), some (.int x1), some (.int x2), some (.int x3), some (.int x4), some (.int (x5 + (1))), some (.int (((gI s1 1217) * x8) + x9)), some (.int (((gI s1 1217) * x8) + x9)), some (.int x8), some (.int (x9 + (1)))], [], s1)) 17 rfl ?_
            exact ih.2 x1 x2 x3 x4 (x5 + (1)) (((gI s1 1217) * x8) + x9) (((gI s1 1217) * x8) + x9) x8 (x9 + (1)) _ _ _ h
noncomputable def F_X5_begunBy (p0 : Int32) (p1 : Int32) (p2 : Int32) (p3 : Int32) (σ : PS) : Option (Int32 × PS) :=
  L_X5_begunBy fuelN  14 p0 p1 p2 p3 (0) (-9) (-9) (0) 0 σ
set_option maxRecDepth 50000 in
theorem m_X5_begunBy (p0 : Int32) (p1 : Int32) (p2 : Int32) (p3 : Int32) (σ : PS) {v : Int32} {σ' : PS} (h : F_X5_begunBy p0 p1 p2 p3 σ = some (v, σ')) : PR 169 [.ref 19, .int p0, .int p1, .int p2, .int p3] σ (some (.int v)) σ' := by
  refine PR.enter (L := [some (.ref 19), some (.int p0), some (.int p1), some (.int p2), some (.int p3), none, none, none, none, none]) uT_169 uD_169 rfl rfl ?_
  unfold F_X5_begunBy at h
  refine RU.blk (C' := (14, [some (.ref 19), some (.int p0), some (.int p1), some (.int p2), some (.int p3), some (.int (0)), some (.int (-9)), some (.int (-9)), some (.int (0)), none], [], σ)) 8 rfl ?_
  exact (ml_X5_begunBy fuelN).1 p0 p1 p2 p3 (0) (-9) (-9) (0) none _ _ _ h
noncomputable def F_X5_begun (p0 : Int32) (p1 : Int32) (p2 : Int32) (p3 : Int32) (p4 : Int32) (p5 : Int32) (σ : PS) : Option (Int32 × PS) :=
  (F_X5_noSheet p0 σ).bind fun q1 =>
  let v1 := q1.1
  let s1 := q1.2
  bif cEq v1 0 then (
    (F_X5_in (Int32.toInt64 p1) 0 (2) s1).bind fun q2 =>
    let v2 := q2.1
    let s2 := q2.2
    bif cEq v2 0 then (
      (F_X5_refused (-2) s2).bind fun q3 =>
      let v3 := q3.1
      let s3 := q3.2
      some (v3, s3)
    ) else (
      (F_X5_in (Int32.toInt64 p3) 1 (6) s2).bind fun q4 =>
      let v4 := q4.1
      let s4 := q4.2
      bif cEq v4 0 then (
        (F_X5_refused (-2) s4).bind fun q5 =>
        let v5 := q5.1
        let s5 := q5.2
        some (v5, s5)
      ) else (
        (F_X5_in (Int32.toInt64 p4) 0 (3) s4).bind fun q6 =>
        let v6 := q6.1
        let s6 := q6.2
        bif cEq v6 0 then (
          (F_X5_refused (-2) s6).bind fun q7 =>
          let v7 := q7.1
          let s7 := q7.2
          some (v7, s7)
        ) else (
          (F_X5_in (Int32.toInt64 p5) 0 (2) s6).bind fun q8 =>
          let v8 := q8.1
          let s8 := q8.2
          bif cNe v8 0 then (
            bif cNe (gI s8 1219) 0 then (
              (F_X5_cellsBarred p0 p1 p2 (Int32.toInt64 (p3 * (gI s8 1219))) s8).bind fun q9 =>
              let v9 := q9.1
              let s9 := q9.2
              bif cGe v9 0 then (
                (F_X5_begunBy (((60) * p0) + p2) p3 p4 p5 s9).bind fun q10 =>
                let v10 := q10.1
                let s10 := q10.2
                (F_X5_refused v10 s10).bind fun q11 =>
                let v11 := q11.1
                let s11 := q11.2
                some (v11, s11)
              ) else (
                some (v9, s9)
              )
            ) else (
              (F_X5_refused (-3) s8).bind fun q12 =>
              let v12 := q12.1
              let s12 := q12.2
              some (v12, s12)
            )
          ) else (
            (F_X5_refused (-2) s8).bind fun q13 =>
            let v13 := q13.1
            let s13 := q13.2
            some (v13, s13)
          )
        )
      )
    )
  ) else (
    (F_X5_refused (-1) s1).bind fun q14 =>
    let v14 := q14.1
    let s14 := q14.2
    some (v14, s14)
  )
set_option maxRecDepth 50000 in
theorem m_X5_begun (p0 : Int32) (p1 : Int32) (p2 : Int32) (p3 : Int32) (p4 : Int32) (p5 : Int32) (σ : PS) {v : Int32} {σ' : PS} (h : F_X5_begun p0 p1 p2 p3 p4 p5 σ = some (v, σ')) : PR 170 [.ref 19, .int p0, .int p1, .int p2, .int p3, .int p4, .int p5] σ (some (.int v)) σ' := by
  refine PR.enter (L := [some (.ref 19), some (.int p0), some (.int p1), some (.int p2), some (.int p3), some (.int p4), some (.int p5), none]) uT_170 uD_170 rfl rfl ?_
  unfold F_X5_begun at h
  refine RU.blk (C' := (1, [some (.ref 19), some (.int p0), some (.int p1), some (.int p2), some (.int p3), some (.int p4), some (.int p5), none], [.int p0], σ)) 1 rfl ?_
  obtain ⟨⟨v1, s1⟩, hk, h⟩ := Option.bind_eq_some_iff.mp h
  dsimp only at h
  refine RU.call (as := [.int p0]) (rest := []) (u := some (.int v1)) (C' := (4, [some (.ref 19), some (.int p0), some (.int p1), some (.int p2), some (.int p3), some (.int p4), some (.int p5), none], [.int v1], s1)) rfl rfl (m_X5_noSheet p0 σ hk) rfl rfl ?_
  refine RU.blk (C' := (bif cEq v1 0 then 13 else 7, [some (.ref 19), some (.int p0), some (.int p1), some (.int p2), some (.int p3), some (.int p4), some (.int p5), none], [], s1)) 1 rfl ?_
  rcases cnd_some h with ⟨hc, h⟩ | ⟨hc, h⟩
  · refine RU.tt hc ?_
    refine RU.blk (C' := (19, [some (.ref 19), some (.int p0), some (.int p1), some (.int p2), some (.int p3), some (.int p4), some (.int p5), none], [.long (2), .long 0, .long (Int32.toInt64 p1)], s1)) 4 rfl ?_
    obtain ⟨⟨v2, s2⟩, hk, h⟩ := Option.bind_eq_some_iff.mp h
    dsimp only at h
    refine RU.call (as := [.long (Int32.toInt64 p1), .long 0, .long (2)]) (rest := []) (u := some (.int v2)) (C' := (22, [some (.ref 19), some (.int p0), some (.int p1), some (.int p2), some (.int p3), some (.int p4), some (.int p5), none], [.int v2], s2)) rfl rfl (m_X5_in (Int32.toInt64 p1) 0 (2) s1 hk) rfl rfl ?_
    refine RU.blk (C' := (bif cEq v2 0 then 64 else 25, [some (.ref 19), some (.int p0), some (.int p1), some (.int p2), some (.int p3), some (.int p4), some (.int p5), none], [], s2)) 1 rfl ?_
    rcases cnd_some h with ⟨hc, h⟩ | ⟨hc, h⟩
    · refine RU.tt hc ?_
      refine RU.blk (C' := (67, [some (.ref 19), some (.int p0), some (.int p1), some (.int p2), some (.int p3), some (.int p4), some (.int p5), none], [.int (-2), .ref 19], s2)) 2 rfl ?_
      obtain ⟨⟨v3, s3⟩, hk, h⟩ := Option.bind_eq_some_iff.mp h
      dsimp only at h
      refine RU.call (as := [.ref 19, .int (-2)]) (rest := []) (u := some (.int v3)) (C' := (70, [some (.ref 19), some (.int p0), some (.int p1), some (.int p2), some (.int p3), some (.int p4), some (.int p5), none], [.int v3], s3)) rfl rfl (m_X5_refused (-2) s2 hk) rfl rfl ?_
      obtain ⟨rfl, rfl⟩ := ret_inj h
      exact RU.ret rfl rfl rfl
    · refine RU.ff hc ?_
      refine RU.blk (C' := (32, [some (.ref 19), some (.int p0), some (.int p1), some (.int p2), some (.int p3), some (.int p4), some (.int p5), none], [.long (6), .long 1, .long (Int32.toInt64 p3)], s2)) 4 rfl ?_
      obtain ⟨⟨v4, s4⟩, hk, h⟩ := Option.bind_eq_some_iff.mp h
      dsimp only at h
      refine RU.call (as := [.long (Int32.toInt64 p3), .long 1, .long (6)]) (rest := []) (u := some (.int v4)) (C' := (35, [some (.ref 19), some (.int p0), some (.int p1), some (.int p2), some (.int p3), some (.int p4), some (.int p5), none], [.int v4], s4)) rfl rfl (m_X5_in (Int32.toInt64 p3) 1 (6) s2 hk) rfl rfl ?_
      refine RU.blk (C' := (bif cEq v4 0 then 64 else 38, [some (.ref 19), some (.int p0), some (.int p1), some (.int p2), some (.int p3), some (.int p4), some (.int p5), none], [], s4)) 1 rfl ?_
      rcases cnd_some h with ⟨hc, h⟩ | ⟨hc, h⟩
      · refine RU.tt hc ?_
        refine RU.blk (C' := (67, [some (.ref 19), some (.int p0), some (.int p1), some (.int p2), some (.int p3), some (.int p4), some (.int p5), none], [.int (-2), .ref 19], s4)) 2 rfl ?_
        obtain ⟨⟨v5, s5⟩, hk, h⟩ := Option.bind_eq_some_iff.mp h
        dsimp only at h
        refine RU.call (as := [.ref 19, .int (-2)]) (rest := []) (u := some (.int v5)) (C' := (70, [some (.ref 19), some (.int p0), some (.int p1), some (.int p2), some (.int p3), some (.int p4), some (.int p5), none], [.int v5], s5)) rfl rfl (m_X5_refused (-2) s4 hk) rfl rfl ?_
        obtain ⟨rfl, rfl⟩ := ret_inj h
        exact RU.ret rfl rfl rfl
      · refine RU.ff hc ?_
        refine RU.blk (C' := (45, [some (.ref 19), some (.int p0), some (.int p1), some (.int p2), some (.int p3), some (.int p4), some (.int p5), none], [.long (3), .long 0, .long (Int32.toInt64 p4)], s4)) 4 rfl ?_
        obtain ⟨⟨v6, s6⟩, hk, h⟩ := Option.bind_eq_some_iff.mp h
        dsimp only at h
        refine RU.call (as := [.long (Int32.toInt64 p4), .long 0, .long (3)]) (rest := []) (u := some (.int v6)) (C' := (48, [some (.ref 19), some (.int p0), some (.int p1), some (.int p2), some (.int p3), some (.int p4), some (.int p5), none], [.int v6], s6)) rfl rfl (m_X5_in (Int32.toInt64 p4) 0 (3) s4 hk) rfl rfl ?_
        refine RU.blk (C' := (bif cEq v6 0 then 64 else 51, [some (.ref 19), some (.int p0), some (.int p1), some (.int p2), some (.int p3), some (.int p4), some (.int p5), none], [], s6)) 1 rfl ?_
        rcases cnd_some h with ⟨hc, h⟩ | ⟨hc, h⟩
        · refine RU.tt hc ?_
          refine RU.blk (C' := (67, [some (.ref 19), some (.int p0), some (.int p1), some (.int p2), some (.int p3), some (.int p4), some (.int p5), none], [.int (-2), .ref 19], s6)) 2 rfl ?_
          obtain ⟨⟨v7, s7⟩, hk, h⟩ := Option.bind_eq_some_iff.mp h
          dsimp only at h
          refine RU.call (as := [.ref 19, .int (-2)]) (rest := []) (u := some (.int v7)) (C' := (70, [some (.ref 19), some (.int p0), some (.int p1), some (.int p2), some (.int p3), some (.int p4), some (.int p5), none], [.int v7], s7)) rfl rfl (m_X5_refused (-2) s6 hk) rfl rfl ?_
          obtain ⟨rfl, rfl⟩ := ret_inj h
          exact RU.ret rfl rfl rfl
        · refine RU.ff hc ?_
          refine RU.blk (C' := (58, [some (.ref 19), some (.int p0), some (.int p1), some (.int p2), some (.int p3), some (.int p4), some (.int p5), none], [.long (2), .long 0, .long (Int32.toInt64 p5)], s6)) 4 rfl ?_
          obtain ⟨⟨v8, s8⟩, hk, h⟩ := Option.bind_eq_some_iff.mp h
          dsimp only at h
          refine RU.call (as := [.long (Int32.toInt64 p5), .long 0, .long (2)]) (rest := []) (u := some (.int v8)) (C' := (61, [some (.ref 19), some (.int p0), some (.int p1), some (.int p2), some (.int p3), some (.int p4), some (.int p5), none], [.int v8], s8)) rfl rfl (m_X5_in (Int32.toInt64 p5) 0 (2) s6 hk) rfl rfl ?_
          refine RU.blk (C' := (bif cNe v8 0 then 71 else 64, [some (.ref 19), some (.int p0), some (.int p1), some (.int p2), some (.int p3), some (.int p4), some (.int p5), none], [], s8)) 1 rfl ?_
          rcases cnd_some h with ⟨hc, h⟩ | ⟨hc, h⟩
          · refine RU.tt hc ?_
            refine RU.blk (C' := (bif cNe (gI s8 1219) 0 then 85 else 78, [some (.ref 19), some (.int p0), some (.int p1), some (.int p2), some (.int p3), some (.int p4), some (.int p5), none], [], s8)) 3 rfl ?_
            rcases cnd_some h with ⟨hc, h⟩ | ⟨hc, h⟩
            · refine RU.tt hc ?_
              refine RU.blk (C' := (97, [some (.ref 19), some (.int p0), some (.int p1), some (.int p2), some (.int p3), some (.int p4), some (.int p5), none], [.long (Int32.toInt64 (p3 * (gI s8 1219))), .int p2, .int p1, .int p0, .ref 19], s8)) 9 rfl ?_
              obtain ⟨⟨v9, s9⟩, hk, h⟩ := Option.bind_eq_some_iff.mp h
              dsimp only at h
              refine RU.call (as := [.ref 19, .int p0, .int p1, .int p2, .long (Int32.toInt64 (p3 * (gI s8 1219)))]) (rest := []) (u := some (.int v9)) (C' := (100, [some (.ref 19), some (.int p0), some (.int p1), some (.int p2), some (.int p3), some (.int p4), some (.int p5), none], [.int v9], s9)) rfl rfl (m_X5_cellsBarred p0 p1 p2 (Int32.toInt64 (p3 * (gI s8 1219))) s8 hk) rfl rfl ?_
              refine RU.blk (C' := (bif cGe v9 0 then 112 else 107, [some (.ref 19), some (.int p0), some (.int p1), some (.int p2), some (.int p3), some (.int p4), some (.int p5), some (.int v9)], [], s9)) 3 rfl ?_
              rcases cnd_some h with ⟨hc, h⟩ | ⟨hc, h⟩
              · refine RU.tt hc ?_
                refine RU.blk (C' := (126, [some (.ref 19), some (.int p0), some (.int p1), some (.int p2), some (.int p3), some (.int p4), some (.int p5), some (.int v9)], [.int p5, .int p4, .int p3, .int (((60) * p0) + p2), .ref 19, .ref 19], s9)) 10 rfl ?_
                obtain ⟨⟨v10, s10⟩, hk, h⟩ := Option.bind_eq_some_iff.mp h
                dsimp only at h
                refine RU.call (as := [.ref 19, .int (((60) * p0) + p2), .int p3, .int p4, .int p5]) (rest := [.ref 19]) (u := some (.int v10)) (C' := (129, [some (.ref 19), some (.int p0), some (.int p1), some (.int p2), some (.int p3), some (.int p4), some (.int p5), some (.int v9)], [.int v10, .ref 19], s10)) rfl rfl (m_X5_begunBy (((60) * p0) + p2) p3 p4 p5 s9 hk) rfl rfl ?_
                obtain ⟨⟨v11, s11⟩, hk, h⟩ := Option.bind_eq_some_iff.mp h
                dsimp only at h
                refine RU.call (as := [.ref 19, .int v10]) (rest := []) (u := some (.int v11)) (C' := (132, [some (.ref 19), some (.int p0), some (.int p1), some (.int p2), some (.int p3), some (.int p4), some (.int p5), some (.int v9)], [.int v11], s11)) rfl rfl (m_X5_refused v10 s10 hk) rfl rfl ?_
                obtain ⟨rfl, rfl⟩ := ret_inj h
                exact RU.ret rfl rfl rfl
              · refine RU.ff hc ?_
                refine RU.blk (C' := (132, [some (.ref 19), some (.int p0), some (.int p1), some (.int p2), some (.int p3), some (.int p4), some (.int p5), some (.int v9)], [.int v9], s9)) 2 rfl ?_
                obtain ⟨rfl, rfl⟩ := ret_inj h
                exact RU.ret rfl rfl rfl
            · refine RU.ff hc ?_
              refine RU.blk (C' := (81, [some (.ref 19), some (.int p0), some (.int p1), some (.int p2), some (.int p3), some (.int p4), some (.int p5), none], [.int (-3), .ref 19], s8)) 2 rfl ?_
              obtain ⟨⟨v12, s12⟩, hk, h⟩ := Option.bind_eq_some_iff.mp h
              dsimp only at h
              refine RU.call (as := [.ref 19, .int (-3)]) (rest := []) (u := some (.int v12)) (C' := (84, [some (.ref 19), some (.int p0), some (.int p1), some (.int p2), some (.int p3), some (.int p4), some (.int p5), none], [.int v12], s12)) rfl rfl (m_X5_refused (-3) s8 hk) rfl rfl ?_
              obtain ⟨rfl, rfl⟩ := ret_inj h
              exact RU.ret rfl rfl rfl
          · refine RU.ff hc ?_
            refine RU.blk (C' := (67, [some (.ref 19), some (.int p0), some (.int p1), some (.int p2), some (.int p3), some (.int p4), some (.int p5), none], [.int (-2), .ref 19], s8)) 2 rfl ?_
            obtain ⟨⟨v13, s13⟩, hk, h⟩ := Option.bind_eq_some_iff.mp h
            dsimp only at h
            refine RU.call (as := [.ref 19, .int (-2)]) (rest := []) (u := some (.int v13)) (C' := (70, [some (.ref 19), some (.int p0), some (.int p1), some (.int p2), some (.int p3), some (.int p4), some (.int p5), none], [.int v13], s13)) rfl rfl (m_X5_refused (-2) s8 hk) rfl rfl ?_
            obtain ⟨rfl, rfl⟩ := ret_inj h
            exact RU.ret rfl rfl rfl
  · refine RU.ff hc ?_
    refine RU.blk (C' := (9, [some (.ref 19), some (.int p0), some (.int p1), some (.int p2), some (.int p3), some (.int p4), some (.int p5), none], [.int (-1), .ref 19], s1)) 2 rfl ?_
    obtain ⟨⟨v14, s14⟩, hk, h⟩ := Option.bind_eq_some_iff.mp h
    dsimp only at h
    refine RU.call (as := [.ref 19, .int (-1)]) (rest := []) (u := some (.int v14)) (C' := (12, [some (.ref 19), some (.int p0), some (.int p1), some (.int p2), some (.int p3), some (.int p4), some (.int p5), none], [.int v14], s14)) rfl rfl (m_X5_refused (-1) s1 hk) rfl rfl ?_
    obtain ⟨rfl, rfl⟩ := ret_inj h
    exact RU.ret rfl rfl rfl
noncomputable def L_X5_goesOn  : Nat → Int32 → Int32 → Int32 → Int32 → Int32 → PS → Option (Int32 × PS)
  | 0, _, _, _, _, _, _ => none
  | n + 1, x1, x2, x3, x4, x5, σ => 
    bif cGe x5 x2 then (
      bif okb x4 then some (x4, σ) else none
    ) else (
      bif cEq x4 0 then (
        L_X5_goesOn n  x1 x2 x3 (0) (x5 + (1)) σ
      ) else (
        bif vin (x1 + x5) 240 then
        bif vin ((x1 + x5) - x3) 240 then
        bif cNe (gA σ 32 (Int32.toNatClampNeg (x1 + x5))) (gA σ 32 (Int32.toNatClampNeg ((x1 + x5) - x3))) then (
          L_X5_goesOn n  x1 x2 x3 (0) (x5 + (1)) σ
        ) else (
          L_X5_goesOn n  x1 x2 x3 (1) (x5 + (1)) σ
        )
        else none
        else none
      )
    )
set_option maxRecDepth 50000 in
theorem ml_X5_goesOn  (n : Nat) : (∀ (x1 : Int32) (x2 : Int32) (x3 : Int32) (x4 : Int32) (x5 : Int32) (σ : PS) (v : Int32) (σ' : PS), L_X5_goesOn n x1 x2 x3 x4 x5 σ = some (v, σ') → RU ubX5_goesOn 0 0 (6, [some (.ref 19), some (.int x1), some (.int x2), some (.int x3), some (.int x4), some (.int x5)], [], σ) (some (.int v)) σ') := by
  induction n with
  | zero =>
    intro x1 x2 x3 x4 x5 σ v σ' h; exact absurd (show (none : Option (Int32 × PS)) = some (v, σ') from h) (by simp)
  | succ n ih =>
    intro x1 x2 x3 x4 x5 σ v σ' h
    rw [L_X5_goesOn] at h
    refine RU.blk (C' := (bif cGe x5 x2 then 53 else 12, [some (.ref 19), some (.int x1), some (.int x2), some (.int x3), some (.int x4), some (.int x5)], [], σ)) 3 rfl ?_
    rcases cnd_some h with ⟨hc, h⟩ | ⟨hc, h⟩
    · refine RU.tt hc ?_
      refine RU.blk (C' := (55, [some (.ref 19), some (.int x1), some (.int x2), some (.int x3), some (.int x4), some (.int x5)], [.int x4], σ)) 1 rfl ?_
      obtain ⟨hb, h⟩ := cnd_n h
      obtain ⟨rfl, rfl⟩ := ret_inj h
      exact RU.ret rfl (pret_b hb) rfl
    · refine RU.ff hc ?_
      refine RU.blk (C' := (bif cEq x4 0 then 44 else 17, [some (.ref 19), some (.int x1), some (.int x2), some (.int x3), some (.int x4), some (.int x5)], [], σ)) 2 rfl ?_
      rcases cnd_some h with ⟨hc, h⟩ | ⟨hc, h⟩
      · refine RU.tt hc ?_
        refine RU.blk (C' := (6, [some (.ref 19), some (.int x1), some (.int x2), some (.int x3), some (.int (0)), some (.int (x5 + (1)))], [], σ)) 4 rfl ?_
        exact ih x1 x2 x3 (0) (x5 + (1)) _ _ _ h
      · refine RU.ff hc ?_
        refine RU.blk (C' := (25, [some (.ref 19), some (.int x1), some (.int x2), some (.int x3), some (.int x4), some (.int x5)], [.int (x1 + x5), .ref 32], σ)) 5 rfl ?_
        obtain ⟨hv, h⟩ := cnd_n h
        refine RU.iald (N := 240) rfl rfl hv ?_
        refine RU.blk (C' := (36, [some (.ref 19), some (.int x1), some (.int x2), some (.int x3), some (.int x4), some (.int x5)], [.int ((x1 + x5) - x3), .ref 32, .int (gA σ 32 (Int32.toNatClampNeg (x1 + x5)))], σ)) 7 rfl ?_
        obtain ⟨hv, h⟩ := cnd_n h
        refine RU.iald (N := 240) rfl rfl hv ?_
        refine RU.blk (C' := (bif cNe (gA σ 32 (Int32.toNatClampNeg (x1 + x5))) (gA σ 32 (Int32.toNatClampNeg ((x1 + x5) - x3))) then 44 else 40, [some (.ref 19), some (.int x1), some (.int x2), some (.int x3), some (.int x4), some (.int x5)], [], σ)) 1 rfl ?_
        rcases cnd_some h with ⟨hc, h⟩ | ⟨hc, h⟩
        · refine RU.tt hc ?_
          refine RU.blk (C' := (6, [some (.ref 19), some (.int x1), some (.int x2), some (.int x3), some (.int (0)), some (.int (x5 + (1)))], [], σ)) 4 rfl ?_
          exact ih x1 x2 x3 (0) (x5 + (1)) _ _ _ h
        · refine RU.ff hc ?_
          refine RU.blk (C' := (6, [some (.ref 19), some (.int x1), some (.int x2), some (.int x3), some (.int (1)), some (.int (x5 + (1)))], [], σ)) 5 rfl ?_
          exact ih x1 x2 x3 (1) (x5 + (1)) _ _ _ h
noncomputable def F_X5_goesOn (p0 : Int32) (p1 : Int32) (p2 : Int32) (σ : PS) : Option (Int32 × PS) :=
  L_X5_goesOn fuelN  p0 p1 p2 (1) p2 σ
set_option maxRecDepth 50000 in
theorem m_X5_goesOn (p0 : Int32) (p1 : Int32) (p2 : Int32) (σ : PS) {v : Int32} {σ' : PS} (h : F_X5_goesOn p0 p1 p2 σ = some (v, σ')) : PR 171 [.ref 19, .int p0, .int p1, .int p2] σ (some (.int v)) σ' := by
  refine PR.enter (L := [some (.ref 19), some (.int p0), some (.int p1), some (.int p2), none, none]) uT_171 uD_171 rfl rfl ?_
  unfold F_X5_goesOn at h
  refine RU.blk (C' := (6, [some (.ref 19), some (.int p0), some (.int p1), some (.int p2), some (.int (1)), some (.int p2)], [], σ)) 4 rfl ?_
  exact (ml_X5_goesOn fuelN) p0 p1 p2 (1) p2 _ _ _ h
noncomputable def L_X5_run  : Nat → Int32 → Int32 → Int32 → Int32 → Int32 → PS → Option (Int32 × PS)
  | 0, _, _, _, _, _, _ => none
  | n + 1, x1, x3, x4, x5, x7, σ => 
    (F_X5_goesOn (((60) * x1) + x3) x4 x7 σ).bind fun q1 =>
    let v1 := q1.1
    let s1 := q1.2
    bif cNe v1 0 then (
      bif cNe x5 0 then (
        bif vin (((((60) * x1) + x3) + x4) - x7) 240 then
        (F_X5_refused (gA s1 32 (Int32.toNatClampNeg (((((60) * x1) + x3) + x4) - x7))) s1).bind fun q2 =>
        let v2 := q2.1
        let s2 := q2.2
        some (v2, s2)
        else none
      ) else (
        (F_X5_refused x7 s1).bind fun q3 =>
        let v3 := q3.1
        let s3 := q3.2
        some (v3, s3)
      )
    ) else (
      L_X5_run n  x1 x3 x4 x5 (x7 + (1)) s1
    )
set_option maxRecDepth 50000 in
theorem ml_X5_run  (n : Nat) : (∀ (x1 : Int32) (x3 : Int32) (x4 : Int32) (x5 : Int32) (x7 : Int32) (u2 : Option Value) (u6 : Option Value) (σ : PS) (v : Int32) (σ' : PS), L_X5_run n x1 x3 x4 x5 x7 σ = some (v, σ') → RU ubX5_run 2 48 (79, [some (.ref 19), some (.int x1), u2, some (.int x3), some (.int x4), some (.int x5), u6, some (.int x7)], [], σ) (some (.int v)) σ') := by
  induction n with
  | zero =>
    intro x1 x3 x4 x5 x7 u2 u6 σ v σ' h; exact absurd (show (none : Option (Int32 × PS)) = some (v, σ') from h) (by simp)
  | succ n ih =>
    intro x1 x3 x4 x5 x7 u2 u6 σ v σ' h
    rw [L_X5_run] at h
    refine RU.blk (C' := (90, [some (.ref 19), some (.int x1), none, some (.int x3), some (.int x4), some (.int x5), none, some (.int x7)], [.int x7, .int x4, .int (((60) * x1) + x3), .ref 19], σ)) 8 rfl ?_
    obtain ⟨⟨v1, s1⟩, hk, h⟩ := Option.bind_eq_some_iff.mp h
    dsimp only at h
    refine RU.call (as := [.ref 19, .int (((60) * x1) + x3), .int x4, .int x7]) (rest := []) (u := some (.int v1)) (C' := (93, [some (.ref 19), some (.int x1), none, some (.int x3), some (.int x4), some (.int x5), none, some (.int x7)], [.int v1], s1)) rfl rfl (m_X5_goesOn (((60) * x1) + x3) x4 x7 σ hk) rfl rfl ?_
    refine RU.blk (C' := (bif cNe v1 0 then 102 else 96, [some (.ref 19), some (.int x1), none, some (.int x3), some (.int x4), some (.int x5), none, some (.int x7)], [], s1)) 1 rfl ?_
    rcases cnd_some h with ⟨hc, h⟩ | ⟨hc, h⟩
    · refine RU.tt hc ?_
      refine RU.blk (C' := (bif cNe x5 0 then 113 else 108, [some (.ref 19), some (.int x1), none, some (.int x3), some (.int x4), some (.int x5), none, some (.int x7)], [.ref 19], s1)) 3 rfl ?_
      rcases cnd_some h with ⟨hc, h⟩ | ⟨hc, h⟩
      · refine RU.tt hc ?_
        refine RU.blk (C' := (129, [some (.ref 19), some (.int x1), none, some (.int x3), some (.int x4), some (.int x5), none, some (.int x7)], [.int (((((60) * x1) + x3) + x4) - x7), .ref 32, .ref 19], s1)) 11 rfl ?_
        obtain ⟨hv, h⟩ := cnd_n h
        refine RU.iald (N := 240) rfl rfl hv ?_
        obtain ⟨⟨v2, s2⟩, hk, h⟩ := Option.bind_eq_some_iff.mp h
        dsimp only at h
        refine RU.call (as := [.ref 19, .int (gA s1 32 (Int32.toNatClampNeg (((((60) * x1) + x3) + x4) - x7)))]) (rest := []) (u := some (.int v2)) (C' := (133, [some (.ref 19), some (.int x1), none, some (.int x3), some (.int x4), some (.int x5), none, some (.int x7)], [.int v2], s2)) rfl rfl (m_X5_refused (gA s1 32 (Int32.toNatClampNeg (((((60) * x1) + x3) + x4) - x7))) s1 hk) rfl rfl ?_
        obtain ⟨rfl, rfl⟩ := ret_inj h
        exact RU.ret rfl rfl rfl
      · refine RU.ff hc ?_
        refine RU.blk (C' := (130, [some (.ref 19), some (.int x1), none, some (.int x3), some (.int x4), some (.int x5), none, some (.int x7)], [.int x7, .ref 19], s1)) 2 rfl ?_
        obtain ⟨⟨v3, s3⟩, hk, h⟩ := Option.bind_eq_some_iff.mp h
        dsimp only at h
        refine RU.call (as := [.ref 19, .int x7]) (rest := []) (u := some (.int v3)) (C' := (133, [some (.ref 19), some (.int x1), none, some (.int x3), some (.int x4), some (.int x5), none, some (.int x7)], [.int v3], s3)) rfl rfl (m_X5_refused x7 s1 hk) rfl rfl ?_
        obtain ⟨rfl, rfl⟩ := ret_inj h
        exact RU.ret rfl rfl rfl
    · refine RU.ff hc ?_
      refine RU.blk (C' := (79, [some (.ref 19), some (.int x1), none, some (.int x3), some (.int x4), some (.int x5), none, some (.int (x7 + (1)))], [], s1)) 2 rfl ?_
      exact ih x1 x3 x4 x5 (x7 + (1)) none none _ _ _ h
noncomputable def F_X5_run (p0 : Int32) (p1 : Int32) (p2 : Int32) (p3 : Int32) (p4 : Int32) (σ : PS) : Option (Int32 × PS) :=
  (F_X5_noSheet p0 σ).bind fun q4 =>
  let v4 := q4.1
  let s4 := q4.2
  bif cEq v4 0 then (
    (F_X5_in (Int32.toInt64 p1) 0 (2) s4).bind fun q5 =>
    let v5 := q5.1
    let s5 := q5.2
    bif cEq v5 0 then (
      (F_X5_refused (-2) s5).bind fun q6 =>
      let v6 := q6.1
      let s6 := q6.2
      some (v6, s6)
    ) else (
      (F_X5_in (Int32.toInt64 p3) 1 (40) s5).bind fun q7 =>
      let v7 := q7.1
      let s7 := q7.2
      bif cEq v7 0 then (
        (F_X5_refused (-2) s7).bind fun q8 =>
        let v8 := q8.1
        let s8 := q8.2
        some (v8, s8)
      ) else (
        (F_X5_in (Int32.toInt64 p4) 0 1 s7).bind fun q9 =>
        let v9 := q9.1
        let s9 := q9.2
        bif cNe v9 0 then (
          (F_X5_cellsBarred p0 p1 p2 (Int32.toInt64 p3) s9).bind fun q10 =>
          let v10 := q10.1
          let s10 := q10.2
          bif cGe v10 0 then (
            L_X5_run fuelN  p0 p2 p3 p4 (1) s10
          ) else (
            some (v10, s10)
          )
        ) else (
          (F_X5_refused (-2) s9).bind fun q11 =>
          let v11 := q11.1
          let s11 := q11.2
          some (v11, s11)
        )
      )
    )
  ) else (
    (F_X5_refused (-1) s4).bind fun q12 =>
    let v12 := q12.1
    let s12 := q12.2
    some (v12, s12)
  )
set_option maxRecDepth 50000 in
theorem m_X5_run (p0 : Int32) (p1 : Int32) (p2 : Int32) (p3 : Int32) (p4 : Int32) (σ : PS) {v : Int32} {σ' : PS} (h : F_X5_run p0 p1 p2 p3 p4 σ = some (v, σ')) : PR 172 [.ref 19, .int p0, .int p1, .int p2, .int p3, .int p4] σ (some (.int v)) σ' := by
  refine PR.enter (L := [some (.ref 19), some (.int p0), some (.int p1), some (.int p2), some (.int p3), some (.int p4), none, none]) uT_172 uD_172 rfl rfl ?_
  unfold F_X5_run at h
  refine RU.blk (C' := (1, [some (.ref 19), some (.int p0), some (.int p1), some (.int p2), some (.int p3), some (.int p4), none, none], [.int p0], σ)) 1 rfl ?_
  obtain ⟨⟨v4, s4⟩, hk, h⟩ := Option.bind_eq_some_iff.mp h
  dsimp only at h
  refine RU.call (as := [.int p0]) (rest := []) (u := some (.int v4)) (C' := (4, [some (.ref 19), some (.int p0), some (.int p1), some (.int p2), some (.int p3), some (.int p4), none, none], [.int v4], s4)) rfl rfl (m_X5_noSheet p0 σ hk) rfl rfl ?_
  refine RU.blk (C' := (bif cEq v4 0 then 13 else 7, [some (.ref 19), some (.int p0), some (.int p1), some (.int p2), some (.int p3), some (.int p4), none, none], [], s4)) 1 rfl ?_
  rcases cnd_some h with ⟨hc, h⟩ | ⟨hc, h⟩
  · refine RU.tt hc ?_
    refine RU.blk (C' := (19, [some (.ref 19), some (.int p0), some (.int p1), some (.int p2), some (.int p3), some (.int p4), none, none], [.long (2), .long 0, .long (Int32.toInt64 p1)], s4)) 4 rfl ?_
    obtain ⟨⟨v5, s5⟩, hk, h⟩ := Option.bind_eq_some_iff.mp h
    dsimp only at h
    refine RU.call (as := [.long (Int32.toInt64 p1), .long 0, .long (2)]) (rest := []) (u := some (.int v5)) (C' := (22, [some (.ref 19), some (.int p0), some (.int p1), some (.int p2), some (.int p3), some (.int p4), none, none], [.int v5], s5)) rfl rfl (m_X5_in (Int32.toInt64 p1) 0 (2) s4 hk) rfl rfl ?_
    refine RU.blk (C' := (bif cEq v5 0 then 49 else 25, [some (.ref 19), some (.int p0), some (.int p1), some (.int p2), some (.int p3), some (.int p4), none, none], [], s5)) 1 rfl ?_
    rcases cnd_some h with ⟨hc, h⟩ | ⟨hc, h⟩
    · refine RU.tt hc ?_
      refine RU.blk (C' := (52, [some (.ref 19), some (.int p0), some (.int p1), some (.int p2), some (.int p3), some (.int p4), none, none], [.int (-2), .ref 19], s5)) 2 rfl ?_
      obtain ⟨⟨v6, s6⟩, hk, h⟩ := Option.bind_eq_some_iff.mp h
      dsimp only at h
      refine RU.call (as := [.ref 19, .int (-2)]) (rest := []) (u := some (.int v6)) (C' := (55, [some (.ref 19), some (.int p0), some (.int p1), some (.int p2), some (.int p3), some (.int p4), none, none], [.int v6], s6)) rfl rfl (m_X5_refused (-2) s5 hk) rfl rfl ?_
      obtain ⟨rfl, rfl⟩ := ret_inj h
      exact RU.ret rfl rfl rfl
    · refine RU.ff hc ?_
      refine RU.blk (C' := (32, [some (.ref 19), some (.int p0), some (.int p1), some (.int p2), some (.int p3), some (.int p4), none, none], [.long (40), .long 1, .long (Int32.toInt64 p3)], s5)) 4 rfl ?_
      obtain ⟨⟨v7, s7⟩, hk, h⟩ := Option.bind_eq_some_iff.mp h
      dsimp only at h
      refine RU.call (as := [.long (Int32.toInt64 p3), .long 1, .long (40)]) (rest := []) (u := some (.int v7)) (C' := (35, [some (.ref 19), some (.int p0), some (.int p1), some (.int p2), some (.int p3), some (.int p4), none, none], [.int v7], s7)) rfl rfl (m_X5_in (Int32.toInt64 p3) 1 (40) s5 hk) rfl rfl ?_
      refine RU.blk (C' := (bif cEq v7 0 then 49 else 38, [some (.ref 19), some (.int p0), some (.int p1), some (.int p2), some (.int p3), some (.int p4), none, none], [], s7)) 1 rfl ?_
      rcases cnd_some h with ⟨hc, h⟩ | ⟨hc, h⟩
      · refine RU.tt hc ?_
        refine RU.blk (C' := (52, [some (.ref 19), some (.int p0), some (.int p1), some (.int p2), some (.int p3), some (.int p4), none, none], [.int (-2), .ref 19], s7)) 2 rfl ?_
        obtain ⟨⟨v8, s8⟩, hk, h⟩ := Option.bind_eq_some_iff.mp h
        dsimp only at h
        refine RU.call (as := [.ref 19, .int (-2)]) (rest := []) (u := some (.int v8)) (C' := (55, [some (.ref 19), some (.int p0), some (.int p1), some (.int p2), some (.int p3), some (.int p4), none, none], [.int v8], s8)) rfl rfl (m_X5_refused (-2) s7 hk) rfl rfl ?_
        obtain ⟨rfl, rfl⟩ := ret_inj h
        exact RU.ret rfl rfl rfl
      · refine RU.ff hc ?_
        refine RU.blk (C' := (43, [some (.ref 19), some (.int p0), some (.int p1), some (.int p2), some (.int p3), some (.int p4), none, none], [.long 1, .long 0, .long (Int32.toInt64 p4)], s7)) 4 rfl ?_
        obtain ⟨⟨v9, s9⟩, hk, h⟩ := Option.bind_eq_some_iff.mp h
        dsimp only at h
        refine RU.call (as := [.long (Int32.toInt64 p4), .long 0, .long 1]) (rest := []) (u := some (.int v9)) (C' := (46, [some (.ref 19), some (.int p0), some (.int p1), some (.int p2), some (.int p3), some (.int p4), none, none], [.int v9], s9)) rfl rfl (m_X5_in (Int32.toInt64 p4) 0 1 s7 hk) rfl rfl ?_
        refine RU.blk (C' := (bif cNe v9 0 then 56 else 49, [some (.ref 19), some (.int p0), some (.int p1), some (.int p2), some (.int p3), some (.int p4), none, none], [], s9)) 1 rfl ?_
        rcases cnd_some h with ⟨hc, h⟩ | ⟨hc, h⟩
        · refine RU.tt hc ?_
          refine RU.blk (C' := (63, [some (.ref 19), some (.int p0), some (.int p1), some (.int p2), some (.int p3), some (.int p4), none, none], [.long (Int32.toInt64 p3), .int p2, .int p1, .int p0, .ref 19], s9)) 6 rfl ?_
          obtain ⟨⟨v10, s10⟩, hk, h⟩ := Option.bind_eq_some_iff.mp h
          dsimp only at h
          refine RU.call (as := [.ref 19, .int p0, .int p1, .int p2, .long (Int32.toInt64 p3)]) (rest := []) (u := some (.int v10)) (C' := (66, [some (.ref 19), some (.int p0), some (.int p1), some (.int p2), some (.int p3), some (.int p4), none, none], [.int v10], s10)) rfl rfl (m_X5_cellsBarred p0 p1 p2 (Int32.toInt64 p3) s9 hk) rfl rfl ?_
          refine RU.blk (C' := (bif cGe v10 0 then 76 else 73, [some (.ref 19), some (.int p0), some (.int p1), some (.int p2), some (.int p3), some (.int p4), some (.int v10), none], [], s10)) 3 rfl ?_
          rcases cnd_some h with ⟨hc, h⟩ | ⟨hc, h⟩
          · refine RU.tt hc ?_
            refine RU.blk (C' := (79, [some (.ref 19), some (.int p0), some (.int p1), some (.int p2), some (.int p3), some (.int p4), some (.int v10), some (.int (1))], [], s10)) 2 rfl ?_
            exact (ml_X5_run fuelN) p0 p2 p3 p4 (1) (some (.int p1)) (some (.int v10)) _ _ _ h
          · refine RU.ff hc ?_
            refine RU.blk (C' := (75, [some (.ref 19), some (.int p0), some (.int p1), some (.int p2), some (.int p3), some (.int p4), some (.int v10), none], [.int v10], s10)) 1 rfl ?_
            obtain ⟨rfl, rfl⟩ := ret_inj h
            exact RU.ret rfl rfl rfl
        · refine RU.ff hc ?_
          refine RU.blk (C' := (52, [some (.ref 19), some (.int p0), some (.int p1), some (.int p2), some (.int p3), some (.int p4), none, none], [.int (-2), .ref 19], s9)) 2 rfl ?_
          obtain ⟨⟨v11, s11⟩, hk, h⟩ := Option.bind_eq_some_iff.mp h
          dsimp only at h
          refine RU.call (as := [.ref 19, .int (-2)]) (rest := []) (u := some (.int v11)) (C' := (55, [some (.ref 19), some (.int p0), some (.int p1), some (.int p2), some (.int p3), some (.int p4), none, none], [.int v11], s11)) rfl rfl (m_X5_refused (-2) s9 hk) rfl rfl ?_
          obtain ⟨rfl, rfl⟩ := ret_inj h
          exact RU.ret rfl rfl rfl
  · refine RU.ff hc ?_
    refine RU.blk (C' := (9, [some (.ref 19), some (.int p0), some (.int p1), some (.int p2), some (.int p3), some (.int p4), none, none], [.int (-1), .ref 19], s4)) 2 rfl ?_
    obtain ⟨⟨v12, s12⟩, hk, h⟩ := Option.bind_eq_some_iff.mp h
    dsimp only at h
    refine RU.call (as := [.ref 19, .int (-1)]) (rest := []) (u := some (.int v12)) (C' := (12, [some (.ref 19), some (.int p0), some (.int p1), some (.int p2), some (.int p3), some (.int p4), none, none], [.int v12], s12)) rfl rfl (m_X5_refused (-1) s4 hk) rfl rfl ?_
    obtain ⟨rfl, rfl⟩ := ret_inj h
    exact RU.ret rfl rfl rfl
