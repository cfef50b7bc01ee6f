noncomputable def F_X5_reading (p0 : Int32) (p1 : Int32) (p2 : Int32) (σ : PS) : Option (Int32 × PS) :=
  (F_X5_noLooker p0 σ).bind fun q1 =>
  let v1 := q1.1
  let s1 := q1.2
  bif cEq v1 0 then (
    (F_X5_in (Int32.toInt64 p1) 0 (9) s1).bind fun q2 =>
    let v2 := q2.1
    let s2 := q2.2
    bif cEq v2 0 then (
      some ((-2), s2)
    ) else (
      (F_X5_in (Int32.toInt64 p2) 0 (20) s2).bind fun q3 =>
      let v3 := q3.1
      let s3 := q3.2
      bif cNe v3 0 then (
        bif cNe (gI s3 1241) (8) then (
          bif vin (gI s3 1241) 8 then
          bif vin (gI (sA s3 27 (Int32.toNatClampNeg (gI s3 1241)) p0) 1241) 8 then
          bif vin (gI (sA (sA s3 27 (Int32.toNatClampNeg (gI s3 1241)) p0) 28 (Int32.toNatClampNeg (gI (sA s3 27 (Int32.toNatClampNeg (gI s3 1241)) p0) 1241)) p1) 1241) 8 then
          some (((gI (sI (sA (sA (sA s3 27 (Int32.toNatClampNeg (gI s3 1241)) p0) 28 (Int32.toNatClampNeg (gI (sA s3 27 (Int32.toNatClampNeg (gI s3 1241)) p0) 1241)) p1) 29 (Int32.toNatClampNeg (gI (sA (sA s3 27 (Int32.toNatClampNeg (gI s3 1241)) p0) 28 (Int32.toNatClampNeg (gI (sA s3 27 (Int32.toNatClampNeg (gI s3 1241)) p0) 1241)) p1) 1241)) p2) 1241 ((gI (sA (sA (sA s3 27 (Int32.toNatClampNeg (gI s3 1241)) p0) 28 (Int32.toNatClampNeg (gI (sA s3 27 (Int32.toNatClampNeg (gI s3 1241)) p0) 1241)) p1) 29 (Int32.toNatClampNeg (gI (sA (sA s3 27 (Int32.toNatClampNeg (gI s3 1241)) p0) 28 (Int32.toNatClampNeg (gI (sA s3 27 (Int32.toNatClampNeg (gI s3 1241)) p0) 1241)) p1) 1241)) p2) 1241) + (1))) 1241) - (1)), (sI (sA (sA (sA s3 27 (Int32.toNatClampNeg (gI s3 1241)) p0) 28 (Int32.toNatClampNeg (gI (sA s3 27 (Int32.toNatClampNeg (gI s3 1241)) p0) 1241)) p1) 29 (Int32.toNatClampNeg (gI (sA (sA s3 27 (Int32.toNatClampNeg (gI s3 1241)) p0) 28 (Int32.toNatClampNeg (gI (sA s3 27 (Int32.toNatClampNeg (gI s3 1241)) p0) 1241)) p1) 1241)) p2) 1241 ((gI (sA (sA (sA s3 27 (Int32.toNatClampNeg (gI s3 1241)) p0) 28 (Int32.toNatClampNeg (gI (sA s3 27 (Int32.toNatClampNeg (gI s3 1241)) p0) 1241)) p1) 29 (Int32.toNatClampNeg (gI (sA (sA s3 27 (Int32.toNatClampNeg (gI s3 1241)) p0) 28 (Int32.toNatClampNeg (gI (sA s3 27 (Int32.toNatClampNeg (gI s3 1241)) p0) 1241)) p1) 1241)) p2) 1241) + (1))))
          else none
          else none
          else none
        ) else (
          some ((-4), s3)
        )
      ) else (
        some ((-2), s3)
      )
    )
  ) else (
    some ((-1), s1)
  )
set_option maxRecDepth 50000 in
theorem m_X5_reading (p0 : Int32) (p1 : Int32) (p2 : Int32) (σ : PS) {v : Int32} {σ' : PS} (h : F_X5_reading p0 p1 p2 σ = some (v, σ')) : PR 173 [.ref 19, .int p0, .int p1, .int p2] σ (some (.int v)) σ' := by
  refine PR.enter (L := [some (.ref 19), some (.int p0), some (.int p1), some (.int p2)]) uT_173 uD_173 rfl rfl ?_
  unfold F_X5_reading at h
  refine RU.blk (C' := (2, [some (.ref 19), some (.int p0), some (.int p1), some (.int p2)], [.int p0, .ref 19], σ)) 2 rfl ?_
  obtain ⟨⟨v1, s1⟩, hk, h⟩ := Option.bind_eq_some_iff.mp h
  dsimp only at h
  refine RU.call (as := [.ref 19, .int p0]) (rest := []) (u := some (.int v1)) (C' := (5, [some (.ref 19), some (.int p0), some (.int p1), some (.int p2)], [.int v1], s1)) rfl rfl (m_X5_noLooker p0 σ hk) rfl rfl ?_
  refine RU.blk (C' := (bif cEq v1 0 then 10 else 8, [some (.ref 19), some (.int p0), some (.int p1), some (.int p2)], [], s1)) 1 rfl ?_
  rcases cnd_some h with ⟨hc, h⟩ | ⟨hc, h⟩
  · refine RU.tt hc ?_
    refine RU.blk (C' := (16, [some (.ref 19), some (.int p0), some (.int p1), some (.int p2)], [.long (9), .long 0, .long (Int32.toInt64 p1)], s1)) 4 rfl ?_
    obtain ⟨⟨v2, s2⟩, hk, h⟩ := Option.bind_eq_some_iff.mp h
    dsimp only at h
    refine RU.call (as := [.long (Int32.toInt64 p1), .long 0, .long (9)]) (rest := []) (u := some (.int v2)) (C' := (19, [some (.ref 19), some (.int p0), some (.int p1), some (.int p2)], [.int v2], s2)) rfl rfl (m_X5_in (Int32.toInt64 p1) 0 (9) s1 hk) rfl rfl ?_
    refine RU.blk (C' := (bif cEq v2 0 then 34 else 22, [some (.ref 19), some (.int p0), some (.int p1), some (.int p2)], [], s2)) 1 rfl ?_
    rcases cnd_some h with ⟨hc, h⟩ | ⟨hc, h⟩
    · refine RU.tt hc ?_
      refine RU.blk (C' := (36, [some (.ref 19), some (.int p0), some (.int p1), some (.int p2)], [.int (-2)], s2)) 1 rfl ?_
      obtain ⟨rfl, rfl⟩ := ret_inj h
      exact RU.ret rfl rfl rfl
    · refine RU.ff hc ?_
      refine RU.blk (C' := (28, [some (.ref 19), some (.int p0), some (.int p1), some (.int p2)], [.long (20), .long 0, .long (Int32.toInt64 p2)], s2)) 4 rfl ?_
      obtain ⟨⟨v3, s3⟩, hk, h⟩ := Option.bind_eq_some_iff.mp h
      dsimp only at h
      refine RU.call (as := [.long (Int32.toInt64 p2), .long 0, .long (20)]) (rest := []) (u := some (.int v3)) (C' := (31, [some (.ref 19), some (.int p0), some (.int p1), some (.int p2)], [.int v3], s3)) rfl rfl (m_X5_in (Int32.toInt64 p2) 0 (20) s2 hk) rfl rfl ?_
      refine RU.blk (C' := (bif cNe v3 0 then 37 else 34, [some (.ref 19), some (.int p0), some (.int p1), some (.int p2)], [], s3)) 1 rfl ?_
      rcases cnd_some h with ⟨hc, h⟩ | ⟨hc, h⟩
      · refine RU.tt hc ?_
        refine RU.blk (C' := (bif cNe (gI s3 1241) (8) then 49 else 46, [some (.ref 19), some (.int p0), some (.int p1), some (.int p2)], [], s3)) 4 rfl ?_
        rcases cnd_some h with ⟨hc, h⟩ | ⟨hc, h⟩
        · refine RU.tt hc ?_
          refine RU.blk (C' := (58, [some (.ref 19), some (.int p0), some (.int p1), some (.int p2)], [.int p0, .int (gI s3 1241), .ref 27], s3)) 5 rfl ?_
          obtain ⟨hv, h⟩ := cnd_n h
          refine RU.iast (N := 8) rfl rfl hv ?_
          refine RU.blk (C' := (68, [some (.ref 19), some (.int p0), some (.int p1), some (.int p2)], [.int p1, .int (gI (sA s3 27 (Int32.toNatClampNeg (gI s3 1241)) p0) 1241), .ref 28], (sA s3 27 (Int32.toNatClampNeg (gI s3 1241)) p0))) 5 rfl ?_
          obtain ⟨hv, h⟩ := cnd_n h
          refine RU.iast (N := 8) rfl rfl hv ?_
          refine RU.blk (C' := (78, [some (.ref 19), some (.int p0), some (.int p1), some (.int p2)], [.int p2, .int (gI (sA (sA s3 27 (Int32.toNatClampNeg (gI s3 1241)) p0) 28 (Int32.toNatClampNeg (gI (sA s3 27 (Int32.toNatClampNeg (gI s3 1241)) p0) 1241)) p1) 1241), .ref 29], (sA (sA s3 27 (Int32.toNatClampNeg (gI s3 1241)) p0) 28 (Int32.toNatClampNeg (gI (sA s3 27 (Int32.toNatClampNeg (gI s3 1241)) p0) 1241)) p1))) 5 rfl ?_
          obtain ⟨hv, h⟩ := cnd_n h
          refine RU.iast (N := 8) rfl rfl hv ?_
          refine RU.blk (C' := (95, [some (.ref 19), some (.int p0), some (.int p1), some (.int p2)], [.int ((gI (sI (sA (sA (sA s3 27 (Int32.toNatClampNeg (gI s3 1241)) p0) 28 (Int32.toNatClampNeg (gI (sA s3 27 (Int32.toNatClampNeg (gI s3 1241)) p0) 1241)) p1) 29 (Int32.toNatClampNeg (gI (sA (sA s3 27 (Int32.toNatClampNeg (gI s3 1241)) p0) 28 (Int32.toNatClampNeg (gI (sA s3 27 (Int32.toNatClampNeg (gI s3 1241)) p0) 1241)) p1) 1241)) p2) 1241 ((gI (sA (sA (sA s3 27 (Int32.toNatClampNeg (gI s3 1241)) p0) 28 (Int32.toNatClampNeg (gI (sA s3 27 (Int32.toNatClampNeg (gI s3 1241)) p0) 1241)) p1) 29 (Int32.toNatClampNeg (gI (sA (sA s3 27 (Int32.toNatClampNeg (gI s3 1241)) p0) 28 (Int32.toNatClampNeg (gI (sA s3 27 (Int32.toNatClampNeg (gI s3 1241)) p0) 1241)) p1) 1241)) p2) 1241) + (1))) 1241) - (1))], (sI (sA (sA (sA s3 27 (Int32.toNatClampNeg (gI s3 1241)) p0) 28 (Int32.toNatClampNeg (gI (sA s3 27 (Int32.toNatClampNeg (gI s3 1241)) p0) 1241)) p1) 29 (Int32.toNatClampNeg (gI (sA (sA s3 27 (Int32.toNatClampNeg (gI s3 1241)) p0) 28 (Int32.toNatClampNeg (gI (sA s3 27 (Int32.toNatClampNeg (gI s3 1241)) p0) 1241)) p1) 1241)) p2) 1241 ((gI (sA (sA (sA s3 27 (Int32.toNatClampNeg (gI s3 1241)) p0) 28 (Int32.toNatClampNeg (gI (sA s3 27 (Int32.toNatClampNeg (gI s3 1241)) p0) 1241)) p1) 29 (Int32.toNatClampNeg (gI (sA (sA s3 27 (Int32.toNatClampNeg (gI s3 1241)) p0) 28 (Int32.toNatClampNeg (gI (sA s3 27 (Int32.toNatClampNeg (gI s3 1241)) p0) 1241)) p1) 1241)) p2) 1241) + (1))))) 10 rfl ?_
          obtain ⟨rfl, rfl⟩ := ret_inj h
          exact RU.ret rfl rfl rfl
        · refine RU.ff hc ?_
          refine RU.blk (C' := (48, [some (.ref 19), some (.int p0), some (.int p1), some (.int p2)], [.int (-4)], s3)) 1 rfl ?_
          obtain ⟨rfl, rfl⟩ := ret_inj h
          exact RU.ret rfl rfl rfl
      · refine RU.ff hc ?_
        refine RU.blk (C' := (36, [some (.ref 19), some (.int p0), some (.int p1), some (.int p2)], [.int (-2)], s3)) 1 rfl ?_
        obtain ⟨rfl, rfl⟩ := ret_inj h
        exact RU.ret rfl rfl rfl
  · refine RU.ff hc ?_
    refine RU.blk (C' := (9, [some (.ref 19), some (.int p0), some (.int p1), some (.int p2)], [.int (-1)], s1)) 1 rfl ?_
    obtain ⟨rfl, rfl⟩ := ret_inj h
    exact RU.ret rfl rfl rfl
noncomputable def F_X5_back (p0 : Int32) (σ : PS) : Option (Int32 × PS) :=
  (F_X5_in (Int32.toInt64 p0) 0 (Int32.toInt64 (gI σ 1241)) σ).bind fun q1 =>
  let v1 := q1.1
  let s1 := q1.2
  bif cNe v1 0 then (
    some ((gI (sI s1 1241 ((gI s1 1241) - p0)) 1241), (sI s1 1241 ((gI s1 1241) - p0)))
  ) else (
    some ((-2), s1)
  )
set_option maxRecDepth 50000 in
theorem m_X5_back (p0 : Int32) (σ : PS) {v : Int32} {σ' : PS} (h : F_X5_back p0 σ = some (v, σ')) : PR 174 [.ref 19, .int p0] σ (some (.int v)) σ' := by
  refine PR.enter (L := [some (.ref 19), some (.int p0)]) uT_174 uD_174 rfl rfl ?_
  unfold F_X5_back at h
  refine RU.blk (C' := (8, [some (.ref 19), some (.int p0)], [.long (Int32.toInt64 (gI σ 1241)), .long 0, .long (Int32.toInt64 p0)], σ)) 6 rfl ?_
  obtain ⟨⟨v1, s1⟩, hk, h⟩ := Option.bind_eq_some_iff.mp h
  dsimp only at h
  refine RU.call (as := [.long (Int32.toInt64 p0), .long 0, .long (Int32.toInt64 (gI σ 1241))]) (rest := []) (u := some (.int v1)) (C' := (11, [some (.ref 19), some (.int p0)], [.int v1], s1)) rfl rfl (m_X5_in (Int32.toInt64 p0) 0 (Int32.toInt64 (gI σ 1241)) σ hk) rfl rfl ?_
  refine RU.blk (C' := (bif cNe v1 0 then 17 else 14, [some (.ref 19), some (.int p0)], [], s1)) 1 rfl ?_
  rcases cnd_some h with ⟨hc, h⟩ | ⟨hc, h⟩
  · refine RU.tt hc ?_
    refine RU.blk (C' := (31, [some (.ref 19), some (.int p0)], [.int (gI (sI s1 1241 ((gI s1 1241) - p0)) 1241)], (sI s1 1241 ((gI s1 1241) - p0)))) 8 rfl ?_
    obtain ⟨rfl, rfl⟩ := ret_inj h
    exact RU.ret rfl rfl rfl
  · refine RU.ff hc ?_
    refine RU.blk (C' := (16, [some (.ref 19), some (.int p0)], [.int (-2)], s1)) 1 rfl ?_
    obtain ⟨rfl, rfl⟩ := ret_inj h
    exact RU.ret rfl rfl rfl
noncomputable def L_X5_areSo  : Nat → Int32 → Int32 → PS → Option (Int32 × PS)
  | 0, _, _, _ => none
  | n + 1, x1, x2, σ => 
    bif cGe x2 (gI σ 1241) then (
      bif okb x1 then some (x1, σ) else none
    ) else (
      bif cEq x1 0 then (
        L_X5_areSo n  (0) (x2 + (1)) σ
      ) else (
        bif vin x2 8 then
        bif vin x2 8 then
        (F_X5_tells (gA σ 27 (Int32.toNatClampNeg x2)) (gA σ 28 (Int32.toNatClampNeg x2)) σ).bind fun q1 =>
        let v1 := q1.1
        let s1 := q1.2
        bif vin x2 8 then
        bif cNe v1 (gA s1 29 (Int32.toNatClampNeg x2)) then (
          L_X5_areSo n  (0) (x2 + (1)) s1
        ) else (
          L_X5_areSo n  (1) (x2 + (1)) s1
        )
        else none
        else none
        else none
      )
    )
set_option maxRecDepth 50000 in
theorem ml_X5_areSo  (n : Nat) : (∀ (x1 : Int32) (x2 : Int32) (σ : PS) (v : Int32) (σ' : PS), L_X5_areSo n x1 x2 σ = some (v, σ') → RU ubX5_areSo 1 23 (4, [some (.ref 19), some (.int x1), some (.int x2)], [], σ) (some (.int v)) σ') := by
  induction n with
  | zero =>
    intro x1 x2 σ v σ' h; exact absurd (show (none : Option (Int32 × PS)) = some (v, σ') from h) (by simp)
  | succ n ih =>
    intro x1 x2 σ v σ' h
    rw [L_X5_areSo] at h
    refine RU.blk (C' := (bif cGe x2 (gI σ 1241) then 53 else 12, [some (.ref 19), some (.int x1), some (.int x2)], [], σ)) 4 rfl ?_
    rcases cnd_some h with ⟨hc, h⟩ | ⟨hc, h⟩
    · refine RU.tt hc ?_
      refine RU.blk (C' := (54, [some (.ref 19), some (.int x1), some (.int x2)], [.int x1], σ)) 1 rfl ?_
      obtain ⟨hb, h⟩ := cnd_n h
      obtain ⟨rfl, rfl⟩ := ret_inj h
      exact RU.ret rfl (pret_b hb) rfl
    · refine RU.ff hc ?_
      refine RU.blk (C' := (bif cEq x1 0 then 45 else 16, [some (.ref 19), some (.int x1), some (.int x2)], [], σ)) 2 rfl ?_
      rcases cnd_some h with ⟨hc, h⟩ | ⟨hc, h⟩
      · refine RU.tt hc ?_
        refine RU.blk (C' := (4, [some (.ref 19), some (.int (0)), some (.int (x2 + (1)))], [], σ)) 4 rfl ?_
        exact ih (0) (x2 + (1)) _ _ _ h
      · refine RU.ff hc ?_
        refine RU.blk (C' := (22, [some (.ref 19), some (.int x1), some (.int x2)], [.int x2, .ref 27, .ref 19], σ)) 4 rfl ?_
        obtain ⟨hv, h⟩ := cnd_n h
        refine RU.iald (N := 8) rfl rfl hv ?_
        refine RU.blk (C' := (28, [some (.ref 19), some (.int x1), some (.int x2)], [.int x2, .ref 28, .int (gA σ 27 (Int32.toNatClampNeg x2)), .ref 19], σ)) 3 rfl ?_
        obtain ⟨hv, h⟩ := cnd_n h
        refine RU.iald (N := 8) rfl rfl hv ?_
        obtain ⟨⟨v1, s1⟩, hk, h⟩ := Option.bind_eq_some_iff.mp h
        dsimp only at h
        refine RU.call (as := [.ref 19, .int (gA σ 27 (Int32.toNatClampNeg x2)), .int (gA σ 28 (Int32.toNatClampNeg x2))]) (rest := []) (u := some (.int v1)) (C' := (32, [some (.ref 19), some (.int x1), some (.int x2)], [.int v1], s1)) rfl rfl (m_X5_tells (gA σ 27 (Int32.toNatClampNeg x2)) (gA σ 28 (Int32.toNatClampNeg x2)) σ hk) rfl rfl ?_
        refine RU.blk (C' := (37, [some (.ref 19), some (.int x1), some (.int x2)], [.int x2, .ref 29, .int v1], s1)) 3 rfl ?_
        obtain ⟨hv, h⟩ := cnd_n h
        refine RU.iald (N := 8) rfl rfl hv ?_
        refine RU.blk (C' := (bif cNe v1 (gA s1 29 (Int32.toNatClampNeg x2)) then 45 else 41, [some (.ref 19), some (.int x1), some (.int x2)], [], s1)) 1 rfl ?_
        rcases cnd_some h with ⟨hc, h⟩ | ⟨hc, h⟩
        · refine RU.tt hc ?_
          refine RU.blk (C' := (4, [some (.ref 19), some (.int (0)), some (.int (x2 + (1)))], [], s1)) 4 rfl ?_
          exact ih (0) (x2 + (1)) _ _ _ h
        · refine RU.ff hc ?_
          refine RU.blk (C' := (4, [some (.ref 19), some (.int (1)), some (.int (x2 + (1)))], [], s1)) 5 rfl ?_
          exact ih (1) (x2 + (1)) _ _ _ h
noncomputable def F_X5_areSo  (σ : PS) : Option (Int32 × PS) :=
  L_X5_areSo fuelN  (1) (0) σ
set_option maxRecDepth 50000 in
theorem m_X5_areSo  (σ : PS) {v : Int32} {σ' : PS} (h : F_X5_areSo σ = some (v, σ')) : PR 175 [.ref 19] σ (some (.int v)) σ' := by
  refine PR.enter (L := [some (.ref 19), none, none]) uT_175 uD_175 rfl rfl ?_
  unfold F_X5_areSo at h
  refine RU.blk (C' := (4, [some (.ref 19), some (.int (1)), some (.int (0))], [], σ)) 4 rfl ?_
  exact (ml_X5_areSo fuelN) (1) (0) _ _ _ h
noncomputable def L_X5_shorts  : Nat → Int32 → Int32 → Int32 → Int32 → PS → Option (Int32 × PS)
  | 0, _, _, _, _, _ => none
  | n + 1, x1, x2, x3, x4, σ => 
    bif cGe x4 (10) then (
      bif vin x1 4 then
      some (x3, (sA σ 22 (Int32.toNatClampNeg x1) x2))
      else none
    ) else (
      bif vin x1 4 then
      (F_X5_areSo (sA σ 22 (Int32.toNatClampNeg x1) x4)).bind fun q1 =>
      let v1 := q1.1
      let s1 := q1.2
      bif cEq v1 0 then (
        L_X5_shorts n  x1 x2 (x3 ||| (0)) (x4 + (1)) s1
      ) else (
        L_X5_shorts n  x1 x2 (x3 ||| (shl (1) x4)) (x4 + (1)) s1
      )
      else none
    )
set_option maxRecDepth 50000 in
theorem ml_X5_shorts  (n : Nat) : (∀ (x1 : Int32) (x2 : Int32) (x3 : Int32) (x4 : Int32) (σ : PS) (v : Int32) (σ' : PS), L_X5_shorts n x1 x2 x3 x4 σ = some (v, σ') → RU ubX5_shorts 2 46 (22, [some (.ref 19), some (.int x1), some (.int x2), some (.int x3), some (.int x4)], [], σ) (some (.int v)) σ') := by
  induction n with
  | zero =>
    intro x1 x2 x3 x4 σ v σ' h; exact absurd (show (none : Option (Int32 × PS)) = some (v, σ') from h) (by simp)
  | succ n ih =>
    intro x1 x2 x3 x4 σ v σ' h
    rw [L_X5_shorts] at h
    refine RU.blk (C' := (bif cGe x4 (10) then 61 else 29, [some (.ref 19), some (.int x1), some (.int x2), some (.int x3), some (.int x4)], [], σ)) 3 rfl ?_
    rcases cnd_some h with ⟨hc, h⟩ | ⟨hc, h⟩
    · refine RU.tt hc ?_
      refine RU.blk (C' := (67, [some (.ref 19), some (.int x1), some (.int x2), some (.int x3), some (.int x4)], [.int x2, .int x1, .ref 22], σ)) 4 rfl ?_
      obtain ⟨hv, h⟩ := cnd_n h
      refine RU.iast (N := 4) rfl rfl hv ?_
      refine RU.blk (C' := (69, [some (.ref 19), some (.int x1), some (.int x2), some (.int x3), some (.int x4)], [.int x3], (sA σ 22 (Int32.toNatClampNeg x1) x2))) 1 rfl ?_
      obtain ⟨rfl, rfl⟩ := ret_inj h
      exact RU.ret rfl rfl rfl
    · refine RU.ff hc ?_
      refine RU.blk (C' := (36, [some (.ref 19), some (.int x1), some (.int x2), some (.int x3), some (.int x4)], [.int x4, .int x1, .ref 22], σ)) 4 rfl ?_
      obtain ⟨hv, h⟩ := cnd_n h
      refine RU.iast (N := 4) rfl rfl hv ?_
      refine RU.blk (C' := (39, [some (.ref 19), some (.int x1), some (.int x2), some (.int x3), some (.int x4)], [.ref 19, .int x3], (sA σ 22 (Int32.toNatClampNeg x1) x4))) 2 rfl ?_
      obtain ⟨⟨v1, s1⟩, hk, h⟩ := Option.bind_eq_some_iff.mp h
      dsimp only at h
      refine RU.call (as := [.ref 19]) (rest := [.int x3]) (u := some (.int v1)) (C' := (42, [some (.ref 19), some (.int x1), some (.int x2), some (.int x3), some (.int x4)], [.int v1, .int x3], s1)) rfl rfl (m_X5_areSo (sA σ 22 (Int32.toNatClampNeg x1) x4) hk) rfl rfl ?_
      refine RU.blk (C' := (bif cEq v1 0 then 52 else 45, [some (.ref 19), some (.int x1), some (.int x2), some (.int x3), some (.int x4)], [.int x3], s1)) 1 rfl ?_
      rcases cnd_some h with ⟨hc, h⟩ | ⟨hc, h⟩
      · refine RU.tt hc ?_
        refine RU.blk (C' := (22, [some (.ref 19), some (.int x1), some (.int x2), some (.int (x3 ||| (0))), some (.int (x4 + (1)))], [], s1)) 5 rfl ?_
        exact ih x1 x2 (x3 ||| (0)) (x4 + (1)) _ _ _ h
      · refine RU.ff hc ?_
        refine RU.blk (C' := (22, [some (.ref 19), some (.int x1), some (.int x2), some (.int (x3 ||| (shl (1) x4))), some (.int (x4 + (1)))], [], s1)) 8 rfl ?_
        exact ih x1 x2 (x3 ||| (shl (1) x4)) (x4 + (1)) _ _ _ h
noncomputable def F_X5_shorts (p0 : Int32) (σ : PS) : Option (Int32 × PS) :=
  (F_X5_noLooker p0 σ).bind fun q2 =>
  let v2 := q2.1
  let s2 := q2.2
  bif cEq v2 0 then (
    bif vin p0 4 then
    L_X5_shorts fuelN  p0 (gA s2 22 (Int32.toNatClampNeg p0)) (0) (0) s2
    else none
  ) else (
    some ((-1), s2)
  )
set_option maxRecDepth 50000 in
theorem m_X5_shorts (p0 : Int32) (σ : PS) {v : Int32} {σ' : PS} (h : F_X5_shorts p0 σ = some (v, σ')) : PR 176 [.ref 19, .int p0] σ (some (.int v)) σ' := by
  refine PR.enter (L := [some (.ref 19), some (.int p0), none, none, none]) uT_176 uD_176 rfl rfl ?_
  unfold F_X5_shorts at h
  refine RU.blk (C' := (2, [some (.ref 19), some (.int p0), none, none, none], [.int p0, .ref 19], σ)) 2 rfl ?_
  obtain ⟨⟨v2, s2⟩, hk, h⟩ := Option.bind_eq_some_iff.mp h
  dsimp only at h
  refine RU.call (as := [.ref 19, .int p0]) (rest := []) (u := some (.int v2)) (C' := (5, [some (.ref 19), some (.int p0), none, none, none], [.int v2], s2)) rfl rfl (m_X5_noLooker p0 σ hk) rfl rfl ?_
  refine RU.blk (C' := (bif cEq v2 0 then 10 else 8, [some (.ref 19), some (.int p0), none, none, none], [], s2)) 1 rfl ?_
  rcases cnd_some h with ⟨hc, h⟩ | ⟨hc, h⟩
  · refine RU.tt hc ?_
    refine RU.blk (C' := (15, [some (.ref 19), some (.int p0), none, none, none], [.int p0, .ref 22], s2)) 3 rfl ?_
    obtain ⟨hv, h⟩ := cnd_n h
    refine RU.iald (N := 4) rfl rfl hv ?_
    refine RU.blk (C' := (22, [some (.ref 19), some (.int p0), some (.int (gA s2 22 (Int32.toNatClampNeg p0))), some (.int (0)), some (.int (0))], [], s2)) 5 rfl ?_
    exact (ml_X5_shorts fuelN) p0 (gA s2 22 (Int32.toNatClampNeg p0)) (0) (0) _ _ _ h
  · refine RU.ff hc ?_
    refine RU.blk (C' := (9, [some (.ref 19), some (.int p0), none, none, none], [.int (-1)], s2)) 1 rfl ?_
    obtain ⟨rfl, rfl⟩ := ret_inj h
    exact RU.ret rfl rfl rfl
noncomputable def L_X5_kinds  : Nat → Int32 → Int32 → Int32 → Int32 → PS → Option (Int32 × PS)
  | 0, _, _, _, _, _ => none
  | n + 1, x1, x2, x3, x4, σ => 
    bif cGe x4 (3) then (
      bif vin x1 4 then
      some (x3, (sA σ 21 (Int32.toNatClampNeg x1) x2))
      else none
    ) else (
      bif vin x1 4 then
      (F_X5_areSo (sA σ 21 (Int32.toNatClampNeg x1) x4)).bind fun q1 =>
      let v1 := q1.1
      let s1 := q1.2
      bif cEq v1 0 then (
        L_X5_kinds n  x1 x2 (x3 ||| (0)) (x4 + (1)) s1
      ) else (
        L_X5_kinds n  x1 x2 (x3 ||| (shl (1) x4)) (x4 + (1)) s1
      )
      else none
    )
set_option maxRecDepth 50000 in
theorem ml_X5_kinds  (n : Nat) : (∀ (x1 : Int32) (x2 : Int32) (x3 : Int32) (x4 : Int32) (σ : PS) (v : Int32) (σ' : PS), L_X5_kinds n x1 x2 x3 x4 σ = some (v, σ') → RU ubX5_kinds 2 46 (22, [some (.ref 19), some (.int x1), some (.int x2), some (.int x3), some (.int x4)], [], σ) (some (.int v)) σ') := by
  induction n with
  | zero =>
    intro x1 x2 x3 x4 σ v σ' h; exact absurd (show (none : Option (Int32 × PS)) = some (v, σ') from h) (by simp)
  | succ n ih =>
    intro x1 x2 x3 x4 σ v σ' h
    rw [L_X5_kinds] at h
    refine RU.blk (C' := (bif cGe x4 (3) then 60 else 28, [some (.ref 19), some (.int x1), some (.int x2), some (.int x3), some (.int x4)], [], σ)) 3 rfl ?_
    rcases cnd_some h with ⟨hc, h⟩ | ⟨hc, h⟩
    · refine RU.tt hc ?_
      refine RU.blk (C' := (66, [some (.ref 19), some (.int x1), some (.int x2), some (.int x3), some (.int x4)], [.int x2, .int x1, .ref 21], σ)) 4 rfl ?_
      obtain ⟨hv, h⟩ := cnd_n h
      refine RU.iast (N := 4) rfl rfl hv ?_
      refine RU.blk (C' := (68, [some (.ref 19), some (.int x1), some (.int x2), some (.int x3), some (.int x4)], [.int x3], (sA σ 21 (Int32.toNatClampNeg x1) x2))) 1 rfl ?_
      obtain ⟨rfl, rfl⟩ := ret_inj h
      exact RU.ret rfl rfl rfl
    · refine RU.ff hc ?_
      refine RU.blk (C' := (35, [some (.ref 19), some (.int x1), some (.int x2), some (.int x3), some (.int x4)], [.int x4, .int x1, .ref 21], σ)) 4 rfl ?_
      obtain ⟨hv, h⟩ := cnd_n h
      refine RU.iast (N := 4) rfl rfl hv ?_
      refine RU.blk (C' := (38, [some (.ref 19), some (.int x1), some (.int x2), some (.int x3), some (.int x4)], [.ref 19, .int x3], (sA σ 21 (Int32.toNatClampNeg x1) x4))) 2 rfl ?_
      obtain ⟨⟨v1, s1⟩, hk, h⟩ := Option.bind_eq_some_iff.mp h
      dsimp only at h
      refine RU.call (as := [.ref 19]) (rest := [.int x3]) (u := some (.int v1)) (C' := (41, [some (.ref 19), some (.int x1), some (.int x2), some (.int x3), some (.int x4)], [.int v1, .int x3], s1)) rfl rfl (m_X5_areSo (sA σ 21 (Int32.toNatClampNeg x1) x4) hk) rfl rfl ?_
      refine RU.blk (C' := (bif cEq v1 0 then 51 else 44, [some (.ref 19), some (.int x1), some (.int x2), some (.int x3), some (.int x4)], [.int x3], s1)) 1 rfl ?_
      rcases cnd_some h with ⟨hc, h⟩ | ⟨hc, h⟩
      · refine RU.tt hc ?_
        refine RU.blk (C' := (22, [some (.ref 19), some (.int x1), some (.int x2), some (.int (x3 ||| (0))), some (.int (x4 + (1)))], [], s1)) 5 rfl ?_
        exact ih x1 x2 (x3 ||| (0)) (x4 + (1)) _ _ _ h
      · refine RU.ff hc ?_
        refine RU.blk (C' := (22, [some (.ref 19), some (.int x1), some (.int x2), some (.int (x3 ||| (shl (1) x4))), some (.int (x4 + (1)))], [], s1)) 8 rfl ?_
        exact ih x1 x2 (x3 ||| (shl (1) x4)) (x4 + (1)) _ _ _ h
noncomputable def F_X5_kinds (p0 : Int32) (σ : PS) : Option (Int32 × PS) :=
  (F_X5_noLooker p0 σ).bind fun q2 =>
  let v2 := q2.1
  let s2 := q2.2
  bif cEq v2 0 then (
    bif vin p0 4 then
    L_X5_kinds fuelN  p0 (gA s2 21 (Int32.toNatClampNeg p0)) (0) (0) s2
    else none
  ) else (
    some ((-1), s2)
  )
set_option maxRecDepth 50000 in
theorem m_X5_kinds (p0 : Int32) (σ : PS) {v : Int32} {σ' : PS} (h : F_X5_kinds p0 σ = some (v, σ')) : PR 177 [.ref 19, .int p0] σ (some (.int v)) σ' := by
  refine PR.enter (L := [some (.ref 19), some (.int p0), none, none, none]) uT_177 uD_177 rfl rfl ?_
  unfold F_X5_kinds at h
  refine RU.blk (C' := (2, [some (.ref 19), some (.int p0), none, none, none], [.int p0, .ref 19], σ)) 2 rfl ?_
  obtain ⟨⟨v2, s2⟩, hk, h⟩ := Option.bind_eq_some_iff.mp h
  dsimp only at h
  refine RU.call (as := [.ref 19, .int p0]) (rest := []) (u := some (.int v2)) (C' := (5, [some (.ref 19), some (.int p0), none, none, none], [.int v2], s2)) rfl rfl (m_X5_noLooker p0 σ hk) rfl rfl ?_
  refine RU.blk (C' := (bif cEq v2 0 then 10 else 8, [some (.ref 19), some (.int p0), none, none, none], [], s2)) 1 rfl ?_
  rcases cnd_some h with ⟨hc, h⟩ | ⟨hc, h⟩
  · refine RU.tt hc ?_
    refine RU.blk (C' := (15, [some (.ref 19), some (.int p0), none, none, none], [.int p0, .ref 21], s2)) 3 rfl ?_
    obtain ⟨hv, h⟩ := cnd_n h
    refine RU.iald (N := 4) rfl rfl hv ?_
    refine RU.blk (C' := (22, [some (.ref 19), some (.int p0), some (.int (gA s2 21 (Int32.toNatClampNeg p0))), some (.int (0)), some (.int (0))], [], s2)) 5 rfl ?_
    exact (ml_X5_kinds fuelN) p0 (gA s2 21 (Int32.toNatClampNeg p0)) (0) (0) _ _ _ h
  · refine RU.ff hc ?_
    refine RU.blk (C' := (9, [some (.ref 19), some (.int p0), none, none, none], [.int (-1)], s2)) 1 rfl ?_
    obtain ⟨rfl, rfl⟩ := ret_inj h
    exact RU.ret rfl rfl rfl
noncomputable def L_X5_odds  : Nat → Nat → Int32 → Int32 → Int32 → Int64 → Int32 → Int32 → PS → Option (Int64 × PS)
  | 0, _, _, _, _, _, _, _, _ => none
  | n + 1, hd, x1, x2, x3, y4, x6, x7, σ => 
    bif Nat.beq hd 40 then (
      bif cGe x6 (gI σ 1218) then (
        (F_X5_share y4 (((Int32.toInt64 ((gI σ 1217) - (gI σ 1219))) + 1) * (Int32.toInt64 (gI σ 1218))) x3 σ).bind fun q1 =>
        let v1 := q1.1
        let s1 := q1.2
        some (v1, s1)
      ) else (
        L_X5_odds n  52 x1 x2 x3 y4 x6 (0) σ
      )
    ) else
    bif Nat.beq hd 52 then (
      bif cGt x7 ((gI σ 1217) - (gI σ 1219)) then (
        L_X5_odds n  40 x1 x2 x3 y4 (x6 + (1)) 0 σ
      ) else (
        bif vin ((((gI σ 1217) * x6) + x7) + x1) 36 then
        (F_X5_tells x1 (gA σ 20 (Int32.toNatClampNeg ((((gI σ 1217) * x6) + x7) + x1))) σ).bind fun q2 =>
        let v2 := q2.1
        let s2 := q2.2
        bif cLt v2 x2 then (
          L_X5_odds n  52 x1 x2 x3 (y4 + 0) x6 (x7 + (1)) s2
        ) else (
          L_X5_odds n  52 x1 x2 x3 (y4 + 1) x6 (x7 + (1)) s2
        )
        else none
      )
    ) else
    none
set_option maxRecDepth 50000 in
theorem ml_X5_odds  (n : Nat) : (∀ (x1 : Int32) (x2 : Int32) (x3 : Int32) (y4 : Int64) (x6 : Int32) (u7 : Option Value) (σ : PS) (v : Int64) (σ' : PS), L_X5_odds n 40 x1 x2 x3 y4 x6 0 σ = some (v, σ') → RU ubX5_odds 2 46 (40, [some (.ref 19), some (.int x1), some (.int x2), some (.int x3), some (.long y4), none, some (.int x6), u7], [], σ) (some (.long v)) σ') ∧ (∀ (x1 : Int32) (x2 : Int32) (x3 : Int32) (y4 : Int64) (x6 : Int32) (x7 : Int32) (σ : PS) (v : Int64) (σ' : PS), L_X5_odds n 52 x1 x2 x3 y4 x6 x7 σ = some (v, σ') → RU ubX5_odds 2 46 (52, [some (.ref 19), some (.int x1), some (.int x2), some (.int x3), some (.long y4), none, some (.int x6), some (.int x7)], [], σ) (some (.long v)) σ') := by
  induction n with
  | zero =>
    refine ⟨?_, ?_⟩
    · intro x1 x2 x3 y4 x6 u7 σ v σ' h; exact absurd (show (none : Option (Int64 × PS)) = some (v, σ') from h) (by simp)
    · intro x1 x2 x3 y4 x6 x7 σ v σ' h; exact absurd (show (none : Option (Int64 × PS)) = some (v, σ') from h) (by simp)
  | succ n ih =>
    refine ⟨?_, ?_⟩
    · intro x1 x2 x3 y4 x6 u7 σ v σ' h
      rw [L_X5_odds] at h
      rcases cnd_some h with ⟨hc, h⟩ | ⟨hc, h⟩
      rotate_left
      · exact absurd hc (by decide)
      refine RU.blk (C' := (bif cGe x6 (gI σ 1218) then 114 else 49, [some (.ref 19), some (.int x1), some (.int x2), some (.int x3), some (.long y4), none, some (.int x6), none], [], σ)) 4 rfl ?_
      rcases cnd_some h with ⟨hc, h⟩ | ⟨hc, h⟩
      · refine RU.tt hc ?_
        refine RU.blk (C' := (135, [some (.ref 19), some (.int x1), some (.int x2), some (.int x3), some (.long y4), none, some (.int x6), none], [.int x3, .long (((Int32.toInt64 ((gI σ 1217) - (gI σ 1219))) + 1) * (Int32.toInt64 (gI σ 1218))), .long y4], σ)) 14 rfl ?_
        obtain ⟨⟨v1, s1⟩, hk, h⟩ := Option.bind_eq_some_iff.mp h
        dsimp only at h
        refine RU.call (as := [.long y4, .long (((Int32.toInt64 ((gI σ 1217) - (gI σ 1219))) + 1) * (Int32.toInt64 (gI σ 1218))), .int x3]) (rest := []) (u := some (.long v1)) (C' := (138, [some (.ref 19), some (.int x1), some (.int x2), some (.int x3), some (.long y4), none, some (.int x6), none], [.long v1], s1)) rfl rfl (m_X5_share y4 (((Int32.toInt64 ((gI σ 1217) - (gI σ 1219))) + 1) * (Int32.toInt64 (gI σ 1218))) x3 σ hk) rfl rfl ?_
        obtain ⟨rfl, rfl⟩ := ret_inj h
        exact RU.ret rfl rfl rfl
      · refine RU.ff hc ?_
        refine RU.blk (C' := (52, [some (.ref 19), some (.int x1), some (.int x2), some (.int x3), some (.long y4), none, some (.int x6), some (.int (0))], [], σ)) 2 rfl ?_
        exact ih.2 x1 x2 x3 y4 x6 (0) _ _ _ h
    · intro x1 x2 x3 y4 x6 x7 σ v σ' h
      rw [L_X5_odds] at h
      rcases cnd_some h with ⟨hc, h⟩ | ⟨hc, h⟩
      · exact absurd hc (by decide)
      rcases cnd_some h with ⟨hc, h⟩ | ⟨hc, h⟩
      rotate_left
      · exact absurd hc (by decide)
      refine RU.blk (C' := (bif cGt x7 ((gI σ 1217) - (gI σ 1219)) then 108 else 66, [some (.ref 19), some (.int x1), some (.int x2), some (.int x3), some (.long y4), none, some (.int x6), some (.int x7)], [], σ)) 7 rfl ?_
      rcases cnd_some h with ⟨hc, h⟩ | ⟨hc, h⟩
      · refine RU.tt hc ?_
        refine RU.blk (C' := (40, [some (.ref 19), some (.int x1), some (.int x2), some (.int x3), some (.long y4), none, some (.int (x6 + (1))), some (.int x7)], [], σ)) 2 rfl ?_
        exact ih.1 x1 x2 x3 y4 (x6 + (1)) (some (.int x7)) _ _ _ h
      · refine RU.ff hc ?_
        refine RU.blk (C' := (86, [some (.ref 19), some (.int x1), some (.int x2), some (.int x3), some (.long y4), none, some (.int x6), some (.int x7)], [.int ((((gI σ 1217) * x6) + x7) + x1), .ref 20, .int x1, .ref 19, .long y4], σ)) 13 rfl ?_
        obtain ⟨hv, h⟩ := cnd_n h
        refine RU.iald (N := 36) rfl rfl hv ?_
        obtain ⟨⟨v2, s2⟩, hk, h⟩ := Option.bind_eq_some_iff.mp h
        dsimp only at h
        refine RU.call (as := [.ref 19, .int x1, .int (gA σ 20 (Int32.toNatClampNeg ((((gI σ 1217) * x6) + x7) + x1)))]) (rest := [.long y4]) (u := some (.int v2)) (C' := (90, [some (.ref 19), some (.int x1), some (.int x2), some (.int x3), some (.long y4), none, some (.int x6), some (.int x7)], [.int v2, .long y4], s2)) rfl rfl (m_X5_tells x1 (gA σ 20 (Int32.toNatClampNeg ((((gI σ 1217) * x6) + x7) + x1))) σ hk) rfl rfl ?_
        refine RU.blk (C' := (bif cLt v2 x2 then 98 else 94, [some (.ref 19), some (.int x1), some (.int x2), some (.int x3), some (.long y4), none, some (.int x6), some (.int x7)], [.long y4], s2)) 2 rfl ?_
        rcases cnd_some h with ⟨hc, h⟩ | ⟨hc, h⟩
        · refine RU.tt hc ?_
          refine RU.blk (C' := (52, [some (.ref 19), some (.int x1), some (.int x2), some (.int x3), some (.long (y4 + 0)), none, some (.int x6), some (.int (x7 + (1)))], [], s2)) 5 rfl ?_
          exact ih.2 x1 x2 x3 (y4 + 0) x6 (x7 + (1)) _ _ _ h
        · refine RU.ff hc ?_
          refine RU.blk (C' := (52, [some (.ref 19), some (.int x1), some (.int x2), some (.int x3), some (.long (y4 + 1)), none, some (.int x6), some (.int (x7 + (1)))], [], s2)) 6 rfl ?_
          exact ih.2 x1 x2 x3 (y4 + 1) x6 (x7 + (1)) _ _ _ h
noncomputable def F_X5_odds (p0 : Int32) (p1 : Int32) (p2 : Int32) (σ : PS) : Option (Int64 × PS) :=
  (F_X5_noLooker p0 σ).bind fun q3 =>
  let v3 := q3.1
  let s3 := q3.2
  bif cNe v3 0 then (
    (F_X5_lost s3).bind fun q4 =>
    let v4 := q4.1
    let s4 := q4.2
    some (v4, s4)
  ) else (
    (F_X5_in (Int32.toInt64 p1) 0 (20) s3).bind fun q5 =>
    let v5 := q5.1
    let s5 := q5.2
    bif cEq v5 0 then (
      (F_X5_lost s5).bind fun q6 =>
      let v6 := q6.1
      let s6 := q6.2
      some (v6, s6)
    ) else (
      (F_X5_in (Int32.toInt64 p2) 0 1 s5).bind fun q7 =>
      let v7 := q7.1
      let s7 := q7.2
      bif cNe v7 0 then (
        L_X5_odds fuelN  40 p0 p1 p2 0 (0) 0 s7
      ) else (
        (F_X5_lost s7).bind fun q8 =>
        let v8 := q8.1
        let s8 := q8.2
        some (v8, s8)
      )
    )
  )
set_option maxRecDepth 50000 in
theorem m_X5_odds (p0 : Int32) (p1 : Int32) (p2 : Int32) (σ : PS) {v : Int64} {σ' : PS} (h : F_X5_odds p0 p1 p2 σ = some (v, σ')) : PR 178 [.ref 19, .int p0, .int p1, .int p2] σ (some (.long v)) σ' := by
  refine PR.enter (L := [some (.ref 19), some (.int p0), some (.int p1), some (.int p2), none, none, none, none]) uT_178 uD_178 rfl rfl ?_
  unfold F_X5_odds at h
  refine RU.blk (C' := (2, [some (.ref 19), some (.int p0), some (.int p1), some (.int p2), none, none, none, none], [.int p0, .ref 19], σ)) 2 rfl ?_
  obtain ⟨⟨v3, s3⟩, hk, h⟩ := Option.bind_eq_some_iff.mp h
  dsimp only at h
  refine RU.call (as := [.ref 19, .int p0]) (rest := []) (u := some (.int v3)) (C' := (5, [some (.ref 19), some (.int p0), some (.int p1), some (.int p2), none, none, none, none], [.int v3], s3)) rfl rfl (m_X5_noLooker p0 σ hk) rfl rfl ?_
  refine RU.blk (C' := (bif cNe v3 0 then 30 else 8, [some (.ref 19), some (.int p0), some (.int p1), some (.int p2), none, none, none, none], [], s3)) 1 rfl ?_
  rcases cnd_some h with ⟨hc, h⟩ | ⟨hc, h⟩
  · refine RU.tt hc ?_
    obtain ⟨⟨v4, s4⟩, hk, h⟩ := Option.bind_eq_some_iff.mp h
    dsimp only at h
    refine RU.call (as := []) (rest := []) (u := some (.long v4)) (C' := (33, [some (.ref 19), some (.int p0), some (.int p1), some (.int p2), none, none, none, none], [.long v4], s4)) rfl rfl (m_X5_lost s3 hk) rfl rfl ?_
    obtain ⟨rfl, rfl⟩ := ret_inj h
    exact RU.ret rfl rfl rfl
  · refine RU.ff hc ?_
    refine RU.blk (C' := (14, [some (.ref 19), some (.int p0), some (.int p1), some (.int p2), none, none, none, none], [.long (20), .long 0, .long (Int32.toInt64 p1)], s3)) 4 rfl ?_
    obtain ⟨⟨v5, s5⟩, hk, h⟩ := Option.bind_eq_some_iff.mp h
    dsimp only at h
    refine RU.call (as := [.long (Int32.toInt64 p1), .long 0, .long (20)]) (rest := []) (u := some (.int v5)) (C' := (17, [some (.ref 19), some (.int p0), some (.int p1), some (.int p2), none, none, none, none], [.int v5], s5)) rfl rfl (m_X5_in (Int32.toInt64 p1) 0 (20) s3 hk) rfl rfl ?_
    refine RU.blk (C' := (bif cEq v5 0 then 30 else 20, [some (.ref 19), some (.int p0), some (.int p1), some (.int p2), none, none, none, none], [], s5)) 1 rfl ?_
    rcases cnd_some h with ⟨hc, h⟩ | ⟨hc, h⟩
    · refine RU.tt hc ?_
      obtain ⟨⟨v6, s6⟩, hk, h⟩ := Option.bind_eq_some_iff.mp h
      dsimp only at h
      refine RU.call (as := []) (rest := []) (u := some (.long v6)) (C' := (33, [some (.ref 19), some (.int p0), some (.int p1), some (.int p2), none, none, none, none], [.long v6], s6)) rfl rfl (m_X5_lost s5 hk) rfl rfl ?_
      obtain ⟨rfl, rfl⟩ := ret_inj h
      exact RU.ret rfl rfl rfl
    · refine RU.ff hc ?_
      refine RU.blk (C' := (24, [some (.ref 19), some (.int p0), some (.int p1), some (.int p2), none, none, none, none], [.long 1, .long 0, .long (Int32.toInt64 p2)], s5)) 4 rfl ?_
      obtain ⟨⟨v7, s7⟩, hk, h⟩ := Option.bind_eq_some_iff.mp h
      dsimp only at h
      refine RU.call (as := [.long (Int32.toInt64 p2), .long 0, .long 1]) (rest := []) (u := some (.int v7)) (C' := (27, [some (.ref 19), some (.int p0), some (.int p1), some (.int p2), none, none, none, none], [.int v7], s7)) rfl rfl (m_X5_in (Int32.toInt64 p2) 0 1 s5 hk) rfl rfl ?_
      refine RU.blk (C' := (bif cNe v7 0 then 34 else 30, [some (.ref 19), some (.int p0), some (.int p1), some (.int p2), none, none, none, none], [], s7)) 1 rfl ?_
      rcases cnd_some h with ⟨hc, h⟩ | ⟨hc, h⟩
      · refine RU.tt hc ?_
        refine RU.blk (C' := (40, [some (.ref 19), some (.int p0), some (.int p1), some (.int p2), some (.long 0), none, some (.int (0)), none], [], s7)) 4 rfl ?_
        exact (ml_X5_odds fuelN).1 p0 p1 p2 0 (0) none _ _ _ h
      · refine RU.ff hc ?_
        obtain ⟨⟨v8, s8⟩, hk, h⟩ := Option.bind_eq_some_iff.mp h
        dsimp only at h
        refine RU.call (as := []) (rest := []) (u := some (.long v8)) (C' := (33, [some (.ref 19), some (.int p0), some (.int p1), some (.int p2), none, none, none, none], [.long v8], s8)) rfl rfl (m_X5_lost s7 hk) rfl rfl ?_
        obtain ⟨rfl, rfl⟩ := ret_inj h
        exact RU.ret rfl rfl rfl
noncomputable def L_X5_sheet  : Nat → Int32 → Int32 → Int32 → PS → Option (Int32 × PS)
  | 0, _, _, _, _ => none
  | n + 1, x1, x3, x4, σ => 
    bif cGe x4 x3 then (
      (F_X5_refused (1) σ).bind fun q1 =>
      let v1 := q1.1
      let s1 := q1.2
      some (v1, s1)
    ) else (
      bif vin (((60) * x1) + x4) 240 then
      L_X5_sheet n  x1 x3 (x4 + (1)) (sA σ 32 (Int32.toNatClampNeg (((60) * x1) + x4)) (0))
      else none
    )
set_option maxRecDepth 50000 in
theorem ml_X5_sheet  (n : Nat) : (∀ (x1 : Int32) (x3 : Int32) (x4 : Int32) (u2 : Option Value) (σ : PS) (v : Int32) (σ' : PS), L_X5_sheet n x1 x3 x4 σ = some (v, σ') → RU ubX5_sheet 2 45 (65, [some (.ref 19), some (.int x1), u2, some (.int x3), some (.int x4)], [], σ) (some (.int v)) σ') := by
  induction n with
  | zero =>
    intro x1 x3 x4 u2 σ v σ' h; exact absurd (show (none : Option (Int32 × PS)) = some (v, σ') from h) (by simp)
  | succ n ih =>
    intro x1 x3 x4 u2 σ v σ' h
    rw [L_X5_sheet] at h
    refine RU.blk (C' := (bif cGe x4 x3 then 90 else 71, [some (.ref 19), some (.int x1), none, some (.int x3), some (.int x4)], [], σ)) 3 rfl ?_
    rcases cnd_some h with ⟨hc, h⟩ | ⟨hc, h⟩
    · refine RU.tt hc ?_
      refine RU.blk (C' := (92, [some (.ref 19), some (.int x1), none, some (.int x3), some (.int x4)], [.int (1), .ref 19], σ)) 2 rfl ?_
      obtain ⟨⟨v1, s1⟩, hk, h⟩ := Option.bind_eq_some_iff.mp h
      dsimp only at h
      refine RU.call (as := [.ref 19, .int (1)]) (rest := []) (u := some (.int v1)) (C' := (95, [some (.ref 19), some (.int x1), none, some (.int x3), some (.int x4)], [.int v1], s1)) rfl rfl (m_X5_refused (1) σ hk) rfl rfl ?_
      obtain ⟨rfl, rfl⟩ := ret_inj h
      exact RU.ret rfl rfl rfl
    · refine RU.ff hc ?_
      refine RU.blk (C' := (83, [some (.ref 19), some (.int x1), none, some (.int x3), some (.int x4)], [.int (0), .int (((60) * x1) + x4), .ref 32], σ)) 8 rfl ?_
      obtain ⟨hv, h⟩ := cnd_n h
      refine RU.iast (N := 240) rfl rfl hv ?_
      refine RU.blk (C' := (65, [some (.ref 19), some (.int x1), none, some (.int x3), some (.int (x4 + (1)))], [], (sA σ 32 (Int32.toNatClampNeg (((60) * x1) + x4)) (0)))) 2 rfl ?_
      exact ih x1 x3 (x4 + (1)) none _ _ _ h
noncomputable def F_X5_sheet (p0 : Int32) (p1 : Int32) (p2 : Int32) (σ : PS) : Option (Int32 × PS) :=
  (F_X5_noSheet p0 σ).bind fun q2 =>
  let v2 := q2.1
  let s2 := q2.2
  bif cEq v2 0 then (
    (F_X5_in (Int32.toInt64 p1) 0 (2) s2).bind fun q3 =>
    let v3 := q3.1
    let s3 := q3.2
    bif cEq v3 0 then (
      (F_X5_refused (-2) s3).bind fun q4 =>
      let v4 := q4.1
      let s4 := q4.2
      some (v4, s4)
    ) else (
      bif cLe p2 (60) then (
        bif cGe p2 0 then (
          bif vin p0 4 then
          bif vin p0 4 then
          L_X5_sheet fuelN  p0 p2 (0) (sA (sA s3 30 (Int32.toNatClampNeg p0) p2) 31 (Int32.toNatClampNeg p0) p1)
          else none
          else none
        ) else (
          (F_X5_failed (4) s3).bind fun q5 =>
          let v5 := q5.1
          let s5 := q5.2
          some (v5, s5)
        )
      ) else (
        (F_X5_refused (-2) s3).bind fun q6 =>
        let v6 := q6.1
        let s6 := q6.2
        some (v6, s6)
      )
    )
  ) else (
    (F_X5_refused (-1) s2).bind fun q7 =>
    let v7 := q7.1
    let s7 := q7.2
    some (v7, s7)
  )
set_option maxRecDepth 50000 in
theorem m_X5_sheet (p0 : Int32) (p1 : Int32) (p2 : Int32) (σ : PS) {v : Int32} {σ' : PS} (h : F_X5_sheet p0 p1 p2 σ = some (v, σ')) : PR 180 [.ref 19, .int p0, .int p1, .int p2] σ (some (.int v)) σ' := by
  refine PR.enter (L := [some (.ref 19), some (.int p0), some (.int p1), some (.int p2), none]) uT_180 uD_180 rfl rfl ?_
  unfold F_X5_sheet at h
  refine RU.blk (C' := (1, [some (.ref 19), some (.int p0), some (.int p1), some (.int p2), none], [.int p0], σ)) 1 rfl ?_
  obtain ⟨⟨v2, s2⟩, hk, h⟩ := Option.bind_eq_some_iff.mp h
  dsimp only at h
  refine RU.call (as := [.int p0]) (rest := []) (u := some (.int v2)) (C' := (4, [some (.ref 19), some (.int p0), some (.int p1), some (.int p2), none], [.int v2], s2)) rfl rfl (m_X5_noSheet p0 σ hk) rfl rfl ?_
  refine RU.blk (C' := (bif cEq v2 0 then 13 else 7, [some (.ref 19), some (.int p0), some (.int p1), some (.int p2), none], [], s2)) 1 rfl ?_
  rcases cnd_some h with ⟨hc, h⟩ | ⟨hc, h⟩
  · refine RU.tt hc ?_
    refine RU.blk (C' := (19, [some (.ref 19), some (.int p0), some (.int p1), some (.int p2), none], [.long (2), .long 0, .long (Int32.toInt64 p1)], s2)) 4 rfl ?_
    obtain ⟨⟨v3, s3⟩, hk, h⟩ := Option.bind_eq_some_iff.mp h
    dsimp only at h
    refine RU.call (as := [.long (Int32.toInt64 p1), .long 0, .long (2)]) (rest := []) (u := some (.int v3)) (C' := (22, [some (.ref 19), some (.int p0), some (.int p1), some (.int p2), none], [.int v3], s3)) rfl rfl (m_X5_in (Int32.toInt64 p1) 0 (2) s2 hk) rfl rfl ?_
    refine RU.blk (C' := (bif cEq v3 0 then 31 else 25, [some (.ref 19), some (.int p0), some (.int p1), some (.int p2), none], [], s3)) 1 rfl ?_
    rcases cnd_some h with ⟨hc, h⟩ | ⟨hc, h⟩
    · refine RU.tt hc ?_
      refine RU.blk (C' := (34, [some (.ref 19), some (.int p0), some (.int p1), some (.int p2), none], [.int (-2), .ref 19], s3)) 2 rfl ?_
      obtain ⟨⟨v4, s4⟩, hk, h⟩ := Option.bind_eq_some_iff.mp h
      dsimp only at h
      refine RU.call (as := [.ref 19, .int (-2)]) (rest := []) (u := some (.int v4)) (C' := (37, [some (.ref 19), some (.int p0), some (.int p1), some (.int p2), none], [.int v4], s4)) rfl rfl (m_X5_refused (-2) s3 hk) rfl rfl ?_
      obtain ⟨rfl, rfl⟩ := ret_inj h
      exact RU.ret rfl rfl rfl
    · refine RU.ff hc ?_
      refine RU.blk (C' := (bif cLe p2 (60) then 38 else 31, [some (.ref 19), some (.int p0), some (.int p1), some (.int p2), none], [], s3)) 3 rfl ?_
      rcases cnd_some h with ⟨hc, h⟩ | ⟨hc, h⟩
      · refine RU.tt hc ?_
        refine RU.blk (C' := (bif cGe p2 0 then 48 else 42, [some (.ref 19), some (.int p0), some (.int p1), some (.int p2), none], [], s3)) 2 rfl ?_
        rcases cnd_some h with ⟨hc, h⟩ | ⟨hc, h⟩
        · refine RU.tt hc ?_
          refine RU.blk (C' := (54, [some (.ref 19), some (.int p0), some (.int p1), some (.int p2), none], [.int p2, .int p0, .ref 30], s3)) 4 rfl ?_
          obtain ⟨hv, h⟩ := cnd_n h
          refine RU.iast (N := 4) rfl rfl hv ?_
          refine RU.blk (C' := (61, [some (.ref 19), some (.int p0), some (.int p1), some (.int p2), none], [.int p1, .int p0, .ref 31], (sA s3 30 (Int32.toNatClampNeg p0) p2))) 4 rfl ?_
          obtain ⟨hv, h⟩ := cnd_n h
          refine RU.iast (N := 4) rfl rfl hv ?_
          refine RU.blk (C' := (65, [some (.ref 19), some (.int p0), some (.int p1), some (.int p2), some (.int (0))], [], (sA (sA s3 30 (Int32.toNatClampNeg p0) p2) 31 (Int32.toNatClampNeg p0) p1))) 2 rfl ?_
          exact (ml_X5_sheet fuelN) p0 p2 (0) (some (.int p1)) _ _ _ h
        · refine RU.ff hc ?_
          refine RU.blk (C' := (44, [some (.ref 19), some (.int p0), some (.int p1), some (.int p2), none], [.int (4), .ref 19], s3)) 2 rfl ?_
          obtain ⟨⟨v5, s5⟩, hk, h⟩ := Option.bind_eq_some_iff.mp h
          dsimp only at h
          refine RU.call (as := [.ref 19, .int (4)]) (rest := []) (u := some (.int v5)) (C' := (47, [some (.ref 19), some (.int p0), some (.int p1), some (.int p2), none], [.int v5], s5)) rfl rfl (m_X5_failed (4) s3 hk) rfl rfl ?_
          obtain ⟨rfl, rfl⟩ := ret_inj h
          exact RU.ret rfl rfl rfl
      · refine RU.ff hc ?_
        refine RU.blk (C' := (34, [some (.ref 19), some (.int p0), some (.int p1), some (.int p2), none], [.int (-2), .ref 19], s3)) 2 rfl ?_
        obtain ⟨⟨v6, s6⟩, hk, h⟩ := Option.bind_eq_some_iff.mp h
        dsimp only at h
        refine RU.call (as := [.ref 19, .int (-2)]) (rest := []) (u := some (.int v6)) (C' := (37, [some (.ref 19), some (.int p0), some (.int p1), some (.int p2), none], [.int v6], s6)) rfl rfl (m_X5_refused (-2) s3 hk) rfl rfl ?_
        obtain ⟨rfl, rfl⟩ := ret_inj h
        exact RU.ret rfl rfl rfl
  · refine RU.ff hc ?_
    refine RU.blk (C' := (9, [some (.ref 19), some (.int p0), some (.int p1), some (.int p2), none], [.int (-1), .ref 19], s2)) 2 rfl ?_
    obtain ⟨⟨v7, s7⟩, hk, h⟩ := Option.bind_eq_some_iff.mp h
    dsimp only at h
    refine RU.call (as := [.ref 19, .int (-1)]) (rest := []) (u := some (.int v7)) (C' := (12, [some (.ref 19), some (.int p0), some (.int p1), some (.int p2), none], [.int v7], s7)) rfl rfl (m_X5_refused (-1) s2 hk) rfl rfl ?_
    obtain ⟨rfl, rfl⟩ := ret_inj h
    exact RU.ret rfl rfl rfl
noncomputable def F_X5_lose (p0 : Int32) (σ : PS) : Option (Int32 × PS) :=
  (F_X5_noSheet p0 σ).bind fun q1 =>
  let v1 := q1.1
  let s1 := q1.2
  bif cEq v1 0 then (
    bif vin p0 4 then
    bif cGe (gA s1 30 (Int32.toNatClampNeg p0)) 0 then (
      bif vin p0 4 then
      some ((1), (sA s1 30 (Int32.toNatClampNeg p0) (-1)))
      else none
    ) else (
      bif vin p0 4 then
      some ((0), (sA s1 30 (Int32.toNatClampNeg p0) (-1)))
      else none
    )
    else none
  ) else (
    some ((-1), s1)
  )
set_option maxRecDepth 50000 in
theorem m_X5_lose (p0 : Int32) (σ : PS) {v : Int32} {σ' : PS} (h : F_X5_lose p0 σ = some (v, σ')) : PR 181 [.ref 19, .int p0] σ (some (.int v)) σ' := by
  refine PR.enter (L := [some (.ref 19), some (.int p0), none]) uT_181 uD_181 rfl rfl ?_
  unfold F_X5_lose at h
  refine RU.blk (C' := (1, [some (.ref 19), some (.int p0), none], [.int p0], σ)) 1 rfl ?_
  obtain ⟨⟨v1, s1⟩, hk, h⟩ := Option.bind_eq_some_iff.mp h
  dsimp only at h
  refine RU.call (as := [.int p0]) (rest := []) (u := some (.int v1)) (C' := (4, [some (.ref 19), some (.int p0), none], [.int v1], s1)) rfl rfl (m_X5_noSheet p0 σ hk) rfl rfl ?_
  refine RU.blk (C' := (bif cEq v1 0 then 9 else 7, [some (.ref 19), some (.int p0), none], [], s1)) 1 rfl ?_
  rcases cnd_some h with ⟨hc, h⟩ | ⟨hc, h⟩
  · refine RU.tt hc ?_
    refine RU.blk (C' := (14, [some (.ref 19), some (.int p0), none], [.int p0, .ref 30], s1)) 3 rfl ?_
    obtain ⟨hv, h⟩ := cnd_n h
    refine RU.iald (N := 4) rfl rfl hv ?_
    refine RU.blk (C' := (bif cGe (gA s1 30 (Int32.toNatClampNeg p0)) 0 then 22 else 18, [some (.ref 19), some (.int p0), none], [], s1)) 1 rfl ?_
    rcases cnd_some h with ⟨hc, h⟩ | ⟨hc, h⟩
    · refine RU.tt hc ?_
      refine RU.blk (C' := (30, [some (.ref 19), some (.int p0), some (.int (1))], [.int (-1), .int p0, .ref 30], s1)) 6 rfl ?_
      obtain ⟨hv, h⟩ := cnd_n h
      refine RU.iast (N := 4) rfl rfl hv ?_
      refine RU.blk (C' := (32, [some (.ref 19), some (.int p0), some (.int (1))], [.int (1)], (sA s1 30 (Int32.toNatClampNeg p0) (-1)))) 1 rfl ?_
      obtain ⟨rfl, rfl⟩ := ret_inj h
      exact RU.ret rfl rfl rfl
    · refine RU.ff hc ?_
      refine RU.blk (C' := (30, [some (.ref 19), some (.int p0), some (.int (0))], [.int (-1), .int p0, .ref 30], s1)) 7 rfl ?_
      obtain ⟨hv, h⟩ := cnd_n h
      refine RU.iast (N := 4) rfl rfl hv ?_
      refine RU.blk (C' := (32, [some (.ref 19), some (.int p0), some (.int (0))], [.int (0)], (sA s1 30 (Int32.toNatClampNeg p0) (-1)))) 1 rfl ?_
      obtain ⟨rfl, rfl⟩ := ret_inj h
      exact RU.ret rfl rfl rfl
  · refine RU.ff hc ?_
    refine RU.blk (C' := (8, [some (.ref 19), some (.int p0), none], [.int (-1)], s1)) 1 rfl ?_
    obtain ⟨rfl, rfl⟩ := ret_inj h
    exact RU.ret rfl rfl rfl
noncomputable def F_X5_noCell (p0 : Int32) (p1 : Int32) (σ : PS) : Option (Int32 × PS) :=
  bif vin p0 4 then
  bif cGe (gA σ 30 (Int32.toNatClampNeg p0)) 0 then (
    bif vin p0 4 then
    (F_X5_in (Int32.toInt64 p1) 0 ((Int32.toInt64 (gA σ 30 (Int32.toNatClampNeg p0))) - 1) σ).bind fun q1 =>
    let v1 := q1.1
    let s1 := q1.2
    bif cEq v1 0 then (
      some ((3), s1)
    ) else (
      some ((0), s1)
    )
    else none
  ) else (
    some ((1), σ)
  )
  else none
set_option maxRecDepth 50000 in
theorem m_X5_noCell (p0 : Int32) (p1 : Int32) (σ : PS) {v : Int32} {σ' : PS} (h : F_X5_noCell p0 p1 σ = some (v, σ')) : PR 182 [.ref 19, .int p0, .int p1] σ (some (.int v)) σ' := by
  refine PR.enter (L := [some (.ref 19), some (.int p0), some (.int p1)]) uT_182 uD_182 rfl rfl ?_
  unfold F_X5_noCell at h
  refine RU.blk (C' := (5, [some (.ref 19), some (.int p0), some (.int p1)], [.int p0, .ref 30], σ)) 3 rfl ?_
  obtain ⟨hv, h⟩ := cnd_n h
  refine RU.iald (N := 4) rfl rfl hv ?_
  refine RU.blk (C' := (bif cGe (gA σ 30 (Int32.toNatClampNeg p0)) 0 then 13 else 9, [some (.ref 19), some (.int p0), some (.int p1)], [], σ)) 1 rfl ?_
  rcases cnd_some h with ⟨hc, h⟩ | ⟨hc, h⟩
  · refine RU.tt hc ?_
    refine RU.blk (C' := (21, [some (.ref 19), some (.int p0), some (.int p1)], [.int p0, .ref 30, .long 0, .long (Int32.toInt64 p1)], σ)) 6 rfl ?_
    obtain ⟨hv, h⟩ := cnd_n h
    refine RU.iald (N := 4) rfl rfl hv ?_
    refine RU.blk (C' := (25, [some (.ref 19), some (.int p0), some (.int p1)], [.long ((Int32.toInt64 (gA σ 30 (Int32.toNatClampNeg p0))) - 1), .long 0, .long (Int32.toInt64 p1)], σ)) 3 rfl ?_
    obtain ⟨⟨v1, s1⟩, hk, h⟩ := Option.bind_eq_some_iff.mp h
    dsimp only at h
    refine RU.call (as := [.long (Int32.toInt64 p1), .long 0, .long ((Int32.toInt64 (gA σ 30 (Int32.toNatClampNeg p0))) - 1)]) (rest := []) (u := some (.int v1)) (C' := (28, [some (.ref 19), some (.int p0), some (.int p1)], [.int v1], s1)) rfl rfl (m_X5_in (Int32.toInt64 p1) 0 ((Int32.toInt64 (gA σ 30 (Int32.toNatClampNeg p0))) - 1) σ hk) rfl rfl ?_
    refine RU.blk (C' := (bif cEq v1 0 then 35 else 31, [some (.ref 19), some (.int p0), some (.int p1)], [], s1)) 1 rfl ?_
    rcases cnd_some h with ⟨hc, h⟩ | ⟨hc, h⟩
    · refine RU.tt hc ?_
      refine RU.blk (C' := (36, [some (.ref 19), some (.int p0), some (.int p1)], [.int (3)], s1)) 1 rfl ?_
      obtain ⟨rfl, rfl⟩ := ret_inj h
      exact RU.ret rfl rfl rfl
    · refine RU.ff hc ?_
      refine RU.blk (C' := (36, [some (.ref 19), some (.int p0), some (.int p1)], [.int (0)], s1)) 2 rfl ?_
      obtain ⟨rfl, rfl⟩ := ret_inj h
      exact RU.ret rfl rfl rfl
  · refine RU.ff hc ?_
    refine RU.blk (C' := (36, [some (.ref 19), some (.int p0), some (.int p1)], [.int (1)], σ)) 2 rfl ?_
    obtain ⟨rfl, rfl⟩ := ret_inj h
    exact RU.ret rfl rfl rfl
noncomputable def F_X5_put (p0 : Int32) (p1 : Int32) (p2 : Int32) (σ : PS) : Option (Int32 × PS) :=
  (F_X5_noSheet p0 σ).bind fun q1 =>
  let v1 := q1.1
  let s1 := q1.2
  bif cEq v1 0 then (
    (F_X5_noCell p0 p1 s1).bind fun q2 =>
    let v2 := q2.1
    let s2 := q2.2
    bif cLe v2 0 then (
      bif vin p0 4 then
      bif cNe (gA s2 31 (Int32.toNatClampNeg p0)) 0 then (
        bif vin p0 4 then
        bif cNe (gA s2 31 (Int32.toNatClampNeg p0)) (1) then (
          bif vin (((60) * p0) + p1) 240 then
          (F_X5_refused (1) (sA s2 32 (Int32.toNatClampNeg (((60) * p0) + p1)) p2)).bind fun q3 =>
          let v3 := q3.1
          let s3 := q3.2
          some (v3, s3)
          else none
        ) else (
          bif vin (((60) * p0) + p1) 240 then
          (F_X5_refused (1) (sA s2 32 (Int32.toNatClampNeg (((60) * p0) + p1)) (i2s p2))).bind fun q4 =>
          let v4 := q4.1
          let s4 := q4.2
          some (v4, s4)
          else none
        )
        else none
      ) else (
        bif vin (((60) * p0) + p1) 240 then
        (F_X5_refused (1) (sA s2 32 (Int32.toNatClampNeg (((60) * p0) + p1)) (i2b p2))).bind fun q5 =>
        let v5 := q5.1
        let s5 := q5.2
        some (v5, s5)
        else none
      )
      else none
    ) else (
      (F_X5_noCell p0 p1 s2).bind fun q6 =>
      let v6 := q6.1
      let s6 := q6.2
      (F_X5_failed v6 s6).bind fun q7 =>
      let v7 := q7.1
      let s7 := q7.2
      some (v7, s7)
    )
  ) else (
    (F_X5_refused (-1) s1).bind fun q8 =>
    let v8 := q8.1
    let s8 := q8.2
    some (v8, s8)
  )
set_option maxRecDepth 50000 in
theorem m_X5_put (p0 : Int32) (p1 : Int32) (p2 : Int32) (σ : PS) {v : Int32} {σ' : PS} (h : F_X5_put p0 p1 p2 σ = some (v, σ')) : PR 183 [.ref 19, .int p0, .int p1, .int p2] σ (some (.int v)) σ' := by
  refine PR.enter (L := [some (.ref 19), some (.int p0), some (.int p1), some (.int p2)]) uT_183 uD_183 rfl rfl ?_
  unfold F_X5_put at h
  refine RU.blk (C' := (1, [some (.ref 19), some (.int p0), some (.int p1), some (.int p2)], [.int p0], σ)) 1 rfl ?_
  obtain ⟨⟨v1, s1⟩, hk, h⟩ := Option.bind_eq_some_iff.mp h
  dsimp only at h
  refine RU.call (as := [.int p0]) (rest := []) (u := some (.int v1)) (C' := (4, [some (.ref 19), some (.int p0), some (.int p1), some (.int p2)], [.int v1], s1)) rfl rfl (m_X5_noSheet p0 σ hk) rfl rfl ?_
  refine RU.blk (C' := (bif cEq v1 0 then 13 else 7, [some (.ref 19), some (.int p0), some (.int p1), some (.int p2)], [], s1)) 1 rfl ?_
  rcases cnd_some h with ⟨hc, h⟩ | ⟨hc, h⟩
  · refine RU.tt hc ?_
    refine RU.blk (C' := (16, [some (.ref 19), some (.int p0), some (.int p1), some (.int p2)], [.int p1, .int p0, .ref 19], s1)) 3 rfl ?_
    obtain ⟨⟨v2, s2⟩, hk, h⟩ := Option.bind_eq_some_iff.mp h
    dsimp only at h
    refine RU.call (as := [.ref 19, .int p0, .int p1]) (rest := []) (u := some (.int v2)) (C' := (19, [some (.ref 19), some (.int p0), some (.int p1), some (.int p2)], [.int v2], s2)) rfl rfl (m_X5_noCell p0 p1 s1 hk) rfl rfl ?_
    refine RU.blk (C' := (bif cLe v2 0 then 33 else 22, [some (.ref 19), some (.int p0), some (.int p1), some (.int p2)], [], s2)) 1 rfl ?_
    rcases cnd_some h with ⟨hc, h⟩ | ⟨hc, h⟩
    · refine RU.tt hc ?_
      refine RU.blk (C' := (48, [some (.ref 19), some (.int p0), some (.int p1), some (.int p2)], [.int p0, .ref 31, .int (((60) * p0) + p1), .ref 32], s2)) 10 rfl ?_
      obtain ⟨hv, h⟩ := cnd_n h
      refine RU.iald (N := 4) rfl rfl hv ?_
      refine RU.blk (C' := (bif cNe (gA s2 31 (Int32.toNatClampNeg p0)) 0 then 57 else 52, [some (.ref 19), some (.int p0), some (.int p1), some (.int p2)], [.int (((60) * p0) + p1), .ref 32], s2)) 1 rfl ?_
      rcases cnd_some h with ⟨hc, h⟩ | ⟨hc, h⟩
      · refine RU.tt hc ?_
        refine RU.blk (C' := (62, [some (.ref 19), some (.int p0), some (.int p1), some (.int p2)], [.int p0, .ref 31, .int (((60) * p0) + p1), .ref 32], s2)) 3 rfl ?_
        obtain ⟨hv, h⟩ := cnd_n h
        refine RU.iald (N := 4) rfl rfl hv ?_
        refine RU.blk (C' := (bif cNe (gA s2 31 (Int32.toNatClampNeg p0)) (1) then 72 else 67, [some (.ref 19), some (.int p0), some (.int p1), some (.int p2)], [.int (((60) * p0) + p1), .ref 32], s2)) 2 rfl ?_
        rcases cnd_some h with ⟨hc, h⟩ | ⟨hc, h⟩
        · refine RU.tt hc ?_
          refine RU.blk (C' := (73, [some (.ref 19), some (.int p0), some (.int p1), some (.int p2)], [.int p2, .int (((60) * p0) + p1), .ref 32], s2)) 1 rfl ?_
          obtain ⟨hv, h⟩ := cnd_n h
          refine RU.iast (N := 240) rfl rfl hv ?_
          refine RU.blk (C' := (76, [some (.ref 19), some (.int p0), some (.int p1), some (.int p2)], [.int (1), .ref 19], (sA s2 32 (Int32.toNatClampNeg (((60) * p0) + p1)) p2))) 2 rfl ?_
          obtain ⟨⟨v3, s3⟩, hk, h⟩ := Option.bind_eq_some_iff.mp h
          dsimp only at h
          refine RU.call (as := [.ref 19, .int (1)]) (rest := []) (u := some (.int v3)) (C' := (79, [some (.ref 19), some (.int p0), some (.int p1), some (.int p2)], [.int v3], s3)) rfl rfl (m_X5_refused (1) (sA s2 32 (Int32.toNatClampNeg (((60) * p0) + p1)) p2) hk) rfl rfl ?_
          obtain ⟨rfl, rfl⟩ := ret_inj h
          exact RU.ret rfl rfl rfl
        · refine RU.ff hc ?_
          refine RU.blk (C' := (73, [some (.ref 19), some (.int p0), some (.int p1), some (.int p2)], [.int (i2s p2), .int (((60) * p0) + p1), .ref 32], s2)) 3 rfl ?_
          obtain ⟨hv, h⟩ := cnd_n h
          refine RU.iast (N := 240) rfl rfl hv ?_
          refine RU.blk (C' := (76, [some (.ref 19), some (.int p0), some (.int p1), some (.int p2)], [.int (1), .ref 19], (sA s2 32 (Int32.toNatClampNeg (((60) * p0) + p1)) (i2s p2)))) 2 rfl ?_
          obtain ⟨⟨v4, s4⟩, hk, h⟩ := Option.bind_eq_some_iff.mp h
          dsimp only at h
          refine RU.call (as := [.ref 19, .int (1)]) (rest := []) (u := some (.int v4)) (C' := (79, [some (.ref 19), some (.int p0), some (.int p1), some (.int p2)], [.int v4], s4)) rfl rfl (m_X5_refused (1) (sA s2 32 (Int32.toNatClampNeg (((60) * p0) + p1)) (i2s p2)) hk) rfl rfl ?_
          obtain ⟨rfl, rfl⟩ := ret_inj h
          exact RU.ret rfl rfl rfl
      · refine RU.ff hc ?_
        refine RU.blk (C' := (73, [some (.ref 19), some (.int p0), some (.int p1), some (.int p2)], [.int (i2b p2), .int (((60) * p0) + p1), .ref 32], s2)) 3 rfl ?_
        obtain ⟨hv, h⟩ := cnd_n h
        refine RU.iast (N := 240) rfl rfl hv ?_
        refine RU.blk (C' := (76, [some (.ref 19), some (.int p0), some (.int p1), some (.int p2)], [.int (1), .ref 19], (sA s2 32 (Int32.toNatClampNeg (((60) * p0) + p1)) (i2b p2)))) 2 rfl ?_
        obtain ⟨⟨v5, s5⟩, hk, h⟩ := Option.bind_eq_some_iff.mp h
        dsimp only at h
        refine RU.call (as := [.ref 19, .int (1)]) (rest := []) (u := some (.int v5)) (C' := (79, [some (.ref 19), some (.int p0), some (.int p1), some (.int p2)], [.int v5], s5)) rfl rfl (m_X5_refused (1) (sA s2 32 (Int32.toNatClampNeg (((60) * p0) + p1)) (i2b p2)) hk) rfl rfl ?_
        obtain ⟨rfl, rfl⟩ := ret_inj h
        exact RU.ret rfl rfl rfl
    · refine RU.ff hc ?_
      refine RU.blk (C' := (26, [some (.ref 19), some (.int p0), some (.int p1), some (.int p2)], [.int p1, .int p0, .ref 19, .ref 19], s2)) 4 rfl ?_
      obtain ⟨⟨v6, s6⟩, hk, h⟩ := Option.bind_eq_some_iff.mp h
      dsimp only at h
      refine RU.call (as := [.ref 19, .int p0, .int p1]) (rest := [.ref 19]) (u := some (.int v6)) (C' := (29, [some (.ref 19), some (.int p0), some (.int p1), some (.int p2)], [.int v6, .ref 19], s6)) rfl rfl (m_X5_noCell p0 p1 s2 hk) rfl rfl ?_
      obtain ⟨⟨v7, s7⟩, hk, h⟩ := Option.bind_eq_some_iff.mp h
      dsimp only at h
      refine RU.call (as := [.ref 19, .int v6]) (rest := []) (u := some (.int v7)) (C' := (32, [some (.ref 19), some (.int p0), some (.int p1), some (.int p2)], [.int v7], s7)) rfl rfl (m_X5_failed v6 s6 hk) rfl rfl ?_
      obtain ⟨rfl, rfl⟩ := ret_inj h
      exact RU.ret rfl rfl rfl
  · refine RU.ff hc ?_
    refine RU.blk (C' := (9, [some (.ref 19), some (.int p0), some (.int p1), some (.int p2)], [.int (-1), .ref 19], s1)) 2 rfl ?_
    obtain ⟨⟨v8, s8⟩, hk, h⟩ := Option.bind_eq_some_iff.mp h
    dsimp only at h
    refine RU.call (as := [.ref 19, .int (-1)]) (rest := []) (u := some (.int v8)) (C' := (12, [some (.ref 19), some (.int p0), some (.int p1), some (.int p2)], [.int v8], s8)) rfl rfl (m_X5_refused (-1) s1 hk) rfl rfl ?_
    obtain ⟨rfl, rfl⟩ := ret_inj h
    exact RU.ret rfl rfl rfl
noncomputable def F_X5_cell (p0 : Int32) (p1 : Int32) (p2 : Int32) (σ : PS) : Option (Int64 × PS) :=
  (F_X5_noSheet p0 (sI σ 1216 (0))).bind fun q1 =>
  let v1 := q1.1
  let s1 := q1.2
  bif cNe v1 0 then (
    (F_X5_lost s1).bind fun q2 =>
    let v2 := q2.1
    let s2 := q2.2
    some (v2, s2)
  ) else (
    (F_X5_in (Int32.toInt64 p2) 0 (2) s1).bind fun q3 =>
    let v3 := q3.1
    let s3 := q3.2
    bif cNe v3 0 then (
      bif vin p0 4 then
      bif cLt (gA s3 30 (Int32.toNatClampNeg p0)) 0 then (
        (F_X5_noCell p0 p1 s3).bind fun q4 =>
        let v4 := q4.1
        let s4 := q4.2
        bif cLe v4 0 then (
          bif vin (((60) * p0) + p1) 240 then
          some ((Int32.toInt64 (gA s4 32 (Int32.toNatClampNeg (((60) * p0) + p1)))), s4)
          else none
        ) else (
          (F_X5_noCell p0 p1 s4).bind fun q5 =>
          let v5 := q5.1
          let s5 := q5.2
          (F_X5_failedLong v5 s5).bind fun q6 =>
          let v6 := q6.1
          let s6 := q6.2
          some (v6, s6)
        )
      ) else (
        bif vin p0 4 then
        bif cEq (gA s3 31 (Int32.toNatClampNeg p0)) p2 then (
          (F_X5_noCell p0 p1 s3).bind fun q7 =>
          let v7 := q7.1
          let s7 := q7.2
          bif cLe v7 0 then (
            bif vin (((60) * p0) + p1) 240 then
            some ((Int32.toInt64 (gA s7 32 (Int32.toNatClampNeg (((60) * p0) + p1)))), s7)
            else none
          ) else (
            (F_X5_noCell p0 p1 s7).bind fun q8 =>
            let v8 := q8.1
            let s8 := q8.2
            (F_X5_failedLong v8 s8).bind fun q9 =>
            let v9 := q9.1
            let s9 := q9.2
            some (v9, s9)
          )
        ) else (
          (F_X5_failedLong (2) s3).bind fun q10 =>
          let v10 := q10.1
          let s10 := q10.2
          some (v10, s10)
        )
        else none
      )
      else none
    ) else (
      (F_X5_lost s3).bind fun q11 =>
      let v11 := q11.1
      let s11 := q11.2
      some (v11, s11)
    )
  )
set_option maxRecDepth 50000 in
theorem m_X5_cell (p0 : Int32) (p1 : Int32) (p2 : Int32) (σ : PS) {v : Int64} {σ' : PS} (h : F_X5_cell p0 p1 p2 σ = some (v, σ')) : PR 184 [.ref 19, .int p0, .int p1, .int p2] σ (some (.long v)) σ' := by
  refine PR.enter (L := [some (.ref 19), some (.int p0), some (.int p1), some (.int p2)]) uT_184 uD_184 rfl rfl ?_
  unfold F_X5_cell at h
  refine RU.blk (C' := (6, [some (.ref 19), some (.int p0), some (.int p1), some (.int p2)], [.int p0], (sI σ 1216 (0)))) 4 rfl ?_
  obtain ⟨⟨v1, s1⟩, hk, h⟩ := Option.bind_eq_some_iff.mp h
  dsimp only at h
  refine RU.call (as := [.int p0]) (rest := []) (u := some (.int v1)) (C' := (9, [some (.ref 19), some (.int p0), some (.int p1), some (.int p2)], [.int v1], s1)) rfl rfl (m_X5_noSheet p0 (sI σ 1216 (0)) hk) rfl rfl ?_
  refine RU.blk (C' := (bif cNe v1 0 then 24 else 12, [some (.ref 19), some (.int p0), some (.int p1), some (.int p2)], [], s1)) 1 rfl ?_
  rcases cnd_some h with ⟨hc, h⟩ | ⟨hc, h⟩
  · refine RU.tt hc ?_
    obtain ⟨⟨v2, s2⟩, hk, h⟩ := Option.bind_eq_some_iff.mp h
    dsimp only at h
    refine RU.call (as := []) (rest := []) (u := some (.long v2)) (C' := (27, [some (.ref 19), some (.int p0), some (.int p1), some (.int p2)], [.long v2], s2)) rfl rfl (m_X5_lost s1 hk) rfl rfl ?_
    obtain ⟨rfl, rfl⟩ := ret_inj h
    exact RU.ret rfl rfl rfl
  · refine RU.ff hc ?_
    refine RU.blk (C' := (18, [some (.ref 19), some (.int p0), some (.int p1), some (.int p2)], [.long (2), .long 0, .long (Int32.toInt64 p2)], s1)) 4 rfl ?_
    obtain ⟨⟨v3, s3⟩, hk, h⟩ := Option.bind_eq_some_iff.mp h
    dsimp only at h
    refine RU.call (as := [.long (Int32.toInt64 p2), .long 0, .long (2)]) (rest := []) (u := some (.int v3)) (C' := (21, [some (.ref 19), some (.int p0), some (.int p1), some (.int p2)], [.int v3], s3)) rfl rfl (m_X5_in (Int32.toInt64 p2) 0 (2) s1 hk) rfl rfl ?_
    refine RU.blk (C' := (bif cNe v3 0 then 28 else 24, [some (.ref 19), some (.int p0), some (.int p1), some (.int p2)], [], s3)) 1 rfl ?_
    rcases cnd_some h with ⟨hc, h⟩ | ⟨hc, h⟩
    · refine RU.tt hc ?_
      refine RU.blk (C' := (33, [some (.ref 19), some (.int p0), some (.int p1), some (.int p2)], [.int p0, .ref 30], s3)) 3 rfl ?_
      obtain ⟨hv, h⟩ := cnd_n h
      refine RU.iald (N := 4) rfl rfl hv ?_
      refine RU.blk (C' := (bif cLt (gA s3 30 (Int32.toNatClampNeg p0)) 0 then 53 else 37, [some (.ref 19), some (.int p0), some (.int p1), some (.int p2)], [], s3)) 1 rfl ?_
      rcases cnd_some h with ⟨hc, h⟩ | ⟨hc, h⟩
      · refine RU.tt hc ?_
        refine RU.blk (C' := (56, [some (.ref 19), some (.int p0), some (.int p1), some (.int p2)], [.int p1, .int p0, .ref 19], s3)) 3 rfl ?_
        obtain ⟨⟨v4, s4⟩, hk, h⟩ := Option.bind_eq_some_iff.mp h
        dsimp only at h
        refine RU.call (as := [.ref 19, .int p0, .int p1]) (rest := []) (u := some (.int v4)) (C' := (59, [some (.ref 19), some (.int p0), some (.int p1), some (.int p2)], [.int v4], s4)) rfl rfl (m_X5_noCell p0 p1 s3 hk) rfl rfl ?_
        refine RU.blk (C' := (bif cLe v4 0 then 75 else 62, [some (.ref 19), some (.int p0), some (.int p1), some (.int p2)], [], s4)) 1 rfl ?_
        rcases cnd_some h with ⟨hc, h⟩ | ⟨hc, h⟩
        · refine RU.tt hc ?_
          refine RU.blk (C' := (85, [some (.ref 19), some (.int p0), some (.int p1), some (.int p2)], [.int (((60) * p0) + p1), .ref 32], s4)) 7 rfl ?_
          obtain ⟨hv, h⟩ := cnd_n h
          refine RU.iald (N := 240) rfl rfl hv ?_
          refine RU.blk (C' := (87, [some (.ref 19), some (.int p0), some (.int p1), some (.int p2)], [.long (Int32.toInt64 (gA s4 32 (Int32.toNatClampNeg (((60) * p0) + p1))))], s4)) 1 rfl ?_
          obtain ⟨rfl, rfl⟩ := ret_inj h
          exact RU.ret rfl rfl rfl
        · refine RU.ff hc ?_
          refine RU.blk (C' := (66, [some (.ref 19), some (.int p0), some (.int p1), some (.int p2)], [.int p1, .int p0, .ref 19, .ref 19], s4)) 4 rfl ?_
          obtain ⟨⟨v5, s5⟩, hk, h⟩ := Option.bind_eq_some_iff.mp h
          dsimp only at h
          refine RU.call (as := [.ref 19, .int p0, .int p1]) (rest := [.ref 19]) (u := some (.int v5)) (C' := (69, [some (.ref 19), some (.int p0), some (.int p1), some (.int p2)], [.int v5, .ref 19], s5)) rfl rfl (m_X5_noCell p0 p1 s4 hk) rfl rfl ?_
          obtain ⟨⟨v6, s6⟩, hk, h⟩ := Option.bind_eq_some_iff.mp h
          dsimp only at h
          refine RU.call (as := [.ref 19, .int v5]) (rest := []) (u := some (.long v6)) (C' := (72, [some (.ref 19), some (.int p0), some (.int p1), some (.int p2)], [.long v6], s6)) rfl rfl (m_X5_failedLong v5 s5 hk) rfl rfl ?_
          refine RU.blk (C' := (87, [some (.ref 19), some (.int p0), some (.int p1), some (.int p2)], [.long v6], s6)) 1 rfl ?_
          obtain ⟨rfl, rfl⟩ := ret_inj h
          exact RU.ret rfl rfl rfl
      · refine RU.ff hc ?_
        refine RU.blk (C' := (42, [some (.ref 19), some (.int p0), some (.int p1), some (.int p2)], [.int p0, .ref 31], s3)) 3 rfl ?_
        obtain ⟨hv, h⟩ := cnd_n h
        refine RU.iald (N := 4) rfl rfl hv ?_
        refine RU.blk (C' := (bif cEq (gA s3 31 (Int32.toNatClampNeg p0)) p2 then 53 else 47, [some (.ref 19), some (.int p0), some (.int p1), some (.int p2)], [], s3)) 2 rfl ?_
        rcases cnd_some h with ⟨hc, h⟩ | ⟨hc, h⟩
        · refine RU.tt hc ?_
          refine RU.blk (C' := (56, [some (.ref 19), some (.int p0), some (.int p1), some (.int p2)], [.int p1, .int p0, .ref 19], s3)) 3 rfl ?_
          obtain ⟨⟨v7, s7⟩, hk, h⟩ := Option.bind_eq_some_iff.mp h
          dsimp only at h
          refine RU.call (as := [.ref 19, .int p0, .int p1]) (rest := []) (u := some (.int v7)) (C' := (59, [some (.ref 19), some (.int p0), some (.int p1), some (.int p2)], [.int v7], s7)) rfl rfl (m_X5_noCell p0 p1 s3 hk) rfl rfl ?_
          refine RU.blk (C' := (bif cLe v7 0 then 75 else 62, [some (.ref 19), some (.int p0), some (.int p1), some (.int p2)], [], s7)) 1 rfl ?_
          rcases cnd_some h with ⟨hc, h⟩ | ⟨hc, h⟩
          · refine RU.tt hc ?_
            refine RU.blk (C' := (85, [some (.ref 19), some (.int p0), some (.int p1), some (.int p2)], [.int (((60) * p0) + p1), .ref 32], s7)) 7 rfl ?_
            obtain ⟨hv, h⟩ := cnd_n h
            refine RU.iald (N := 240) rfl rfl hv ?_
            refine RU.blk (C' := (87, [some (.ref 19), some (.int p0), some (.int p1), some (.int p2)], [.long (Int32.toInt64 (gA s7 32 (Int32.toNatClampNeg (((60) * p0) + p1))))], s7)) 1 rfl ?_
            obtain ⟨rfl, rfl⟩ := ret_inj h
            exact RU.ret rfl rfl rfl
          · refine RU.ff hc ?_
            refine RU.blk (C' := (66, [some (.ref 19), some (.int p0), some (.int p1), some (.int p2)], [.int p1, .int p0, .ref 19, .ref 19], s7)) 4 rfl ?_
            obtain ⟨⟨v8, s8⟩, hk, h⟩ := Option.bind_eq_some_iff.mp h
            dsimp only at h
            refine RU.call (as := [.ref 19, .int p0, .int p1]) (rest := [.ref 19]) (u := some (.int v8)) (C' := (69, [some (.ref 19), some (.int p0), some (.int p1), some (.int p2)], [.int v8, .ref 19], s8)) rfl rfl (m_X5_noCell p0 p1 s7 hk) rfl rfl ?_
            obtain ⟨⟨v9, s9⟩, hk, h⟩ := Option.bind_eq_some_iff.mp h
            dsimp only at h
            refine RU.call (as := [.ref 19, .int v8]) (rest := []) (u := some (.long v9)) (C' := (72, [some (.ref 19), some (.int p0), some (.int p1), some (.int p2)], [.long v9], s9)) rfl rfl (m_X5_failedLong v8 s8 hk) rfl rfl ?_
            refine RU.blk (C' := (87, [some (.ref 19), some (.int p0), some (.int p1), some (.int p2)], [.long v9], s9)) 1 rfl ?_
            obtain ⟨rfl, rfl⟩ := ret_inj h
            exact RU.ret rfl rfl rfl
        · refine RU.ff hc ?_
          refine RU.blk (C' := (49, [some (.ref 19), some (.int p0), some (.int p1), some (.int p2)], [.int (2), .ref 19], s3)) 2 rfl ?_
          obtain ⟨⟨v10, s10⟩, hk, h⟩ := Option.bind_eq_some_iff.mp h
          dsimp only at h
          refine RU.call (as := [.ref 19, .int (2)]) (rest := []) (u := some (.long v10)) (C' := (52, [some (.ref 19), some (.int p0), some (.int p1), some (.int p2)], [.long v10], s10)) rfl rfl (m_X5_failedLong (2) s3 hk) rfl rfl ?_
          obtain ⟨rfl, rfl⟩ := ret_inj h
          exact RU.ret rfl rfl rfl
    · refine RU.ff hc ?_
      obtain ⟨⟨v11, s11⟩, hk, h⟩ := Option.bind_eq_some_iff.mp h
      dsimp only at h
      refine RU.call (as := []) (rest := []) (u := some (.long v11)) (C' := (27, [some (.ref 19), some (.int p0), some (.int p1), some (.int p2)], [.long v11], s11)) rfl rfl (m_X5_lost s3 hk) rfl rfl ?_
      obtain ⟨rfl, rfl⟩ := ret_inj h
      exact RU.ret rfl rfl rfl
noncomputable def L_X5_copy  : Nat → Nat → Int32 → Int32 → Int32 → Int32 → Int32 → Int32 → PS → Option (Int32 × PS)
  | 0, _, _, _, _, _, _, _, _ => none
  | n + 1, hd, x1, x2, x3, x4, x5, x6, σ => 
    bif Nat.beq hd 107 then (
      bif cGe x6 x5 then (
        L_X5_copy n  144 0 0 x3 x4 x5 (0) σ
      ) else (
        bif vin ((((60) * x1) + x2) + x6) 240 then
        bif vin x6 60 then
        L_X5_copy n  107 x1 x2 x3 x4 x5 (x6 + (1)) (sA σ 33 (Int32.toNatClampNeg x6) (gA σ 32 (Int32.toNatClampNeg ((((60) * x1) + x2) + x6))))
        else none
        else none
      )
    ) else
    bif Nat.beq hd 144 then (
      bif cGe x6 x5 then (
        (F_X5_refused x5 σ).bind fun q1 =>
        let v1 := q1.1
        let s1 := q1.2
        some (v1, s1)
      ) else (
        bif vin x6 60 then
        bif vin ((((60) * x3) + x4) + x6) 240 then
        L_X5_copy n  144 0 0 x3 x4 x5 (x6 + (1)) (sA σ 32 (Int32.toNatClampNeg ((((60) * x3) + x4) + x6)) (gA σ 33 (Int32.toNatClampNeg x6)))
        else none
        else none
      )
    ) else
    none
set_option maxRecDepth 50000 in
theorem ml_X5_copy  (n : Nat) : (∀ (x1 : Int32) (x2 : Int32) (x3 : Int32) (x4 : Int32) (x5 : Int32) (x6 : Int32) (σ : PS) (v : Int32) (σ' : PS), L_X5_copy n 107 x1 x2 x3 x4 x5 x6 σ = some (v, σ') → RU ubX5_copy 2 45 (107, [some (.ref 19), some (.int x1), some (.int x2), some (.int x3), some (.int x4), some (.int x5), some (.int x6)], [], σ) (some (.int v)) σ') ∧ (∀ (x3 : Int32) (x4 : Int32) (x5 : Int32) (x6 : Int32) (u1 : Option Value) (u2 : Option Value) (σ : PS) (v : Int32) (σ' : PS), L_X5_copy n 144 0 0 x3 x4 x5 x6 σ = some (v, σ') → RU ubX5_copy 2 45 (144, [some (.ref 19), u1, u2, some (.int x3), some (.int x4), some (.int x5), some (.int x6)], [], σ) (some (.int v)) σ') := by
  induction n with
  | zero =>
    refine ⟨?_, ?_⟩
    · intro x1 x2 x3 x4 x5 x6 σ v σ' h; exact absurd (show (none : Option (Int32 × PS)) = some (v, σ') from h) (by simp)
    · intro x3 x4 x5 x6 u1 u2 σ v σ' h; exact absurd (show (none : Option (Int32 × PS)) = some (v, σ') from h) (by simp)
  | succ n ih =>
    refine ⟨?_, ?_⟩
    · intro x1 x2 x3 x4 x5 x6 σ v σ' h
      rw [L_X5_copy] at h
      rcases cnd_some h with ⟨hc, h⟩ | ⟨hc, h⟩
      rotate_left
      · exact absurd hc (by decide)
      refine RU.blk (C' := (bif cGe x6 x5 then 141 else 114, [some (.ref 19), some (.int x1), some (.int x2), some (.int x3), some (.int x4), some (.int x5), some (.int x6)], [], σ)) 3 rfl ?_
      rcases cnd_some h with ⟨hc, h⟩ | ⟨hc, h⟩
      · refine RU.tt hc ?_
        refine RU.blk (C' := (144, [some (.ref 19), some (.int x1), some (.int x2), some (.int x3), some (.int x4), some (.int x5), some (.int (0))], [], σ)) 2 rfl ?_
        exact ih.2 x3 x4 x5 (0) (some (.int x1)) (some (.int x2)) _ _ _ h
      · refine RU.ff hc ?_
        refine RU.blk (C' := (133, [some (.ref 19), some (.int x1), some (.int x2), some (.int x3), some (.int x4), some (.int x5), some (.int x6)], [.int ((((60) * x1) + x2) + x6), .ref 32, .int x6, .ref 33], σ)) 12 rfl ?_
        obtain ⟨hv, h⟩ := cnd_n h
        refine RU.iald (N := 240) rfl rfl hv ?_
        obtain ⟨hv, h⟩ := cnd_n h
        refine RU.iast (N := 60) rfl rfl hv ?_
        refine RU.blk (C' := (107, [some (.ref 19), some (.int x1), some (.int x2), some (.int x3), some (.int x4), some (.int x5), some (.int (x6 + (1)))], [], (sA σ 33 (Int32.toNatClampNeg x6) (gA σ 32 (Int32.toNatClampNeg ((((60) * x1) + x2) + x6)))))) 2 rfl ?_
        exact ih.1 x1 x2 x3 x4 x5 (x6 + (1)) _ _ _ h
    · intro x3 x4 x5 x6 u1 u2 σ v σ' h
      rw [L_X5_copy] at h
      rcases cnd_some h with ⟨hc, h⟩ | ⟨hc, h⟩
      · exact absurd hc (by decide)
      rcases cnd_some h with ⟨hc, h⟩ | ⟨hc, h⟩
      rotate_left
      · exact absurd hc (by decide)
      refine RU.blk (C' := (bif cGe x6 x5 then 179 else 151, [some (.ref 19), none, none, some (.int x3), some (.int x4), some (.int x5), some (.int x6)], [], σ)) 3 rfl ?_
      rcases cnd_some h with ⟨hc, h⟩ | ⟨hc, h⟩
      · refine RU.tt hc ?_
        refine RU.blk (C' := (182, [some (.ref 19), none, none, some (.int x3), some (.int x4), some (.int x5), some (.int x6)], [.int x5, .ref 19], σ)) 2 rfl ?_
        obtain ⟨⟨v1, s1⟩, hk, h⟩ := Option.bind_eq_some_iff.mp h
        dsimp only at h
        refine RU.call (as := [.ref 19, .int x5]) (rest := []) (u := some (.int v1)) (C' := (185, [some (.ref 19), none, none, some (.int x3), some (.int x4), some (.int x5), some (.int x6)], [.int v1], s1)) rfl rfl (m_X5_refused x5 σ hk) rfl rfl ?_
        obtain ⟨rfl, rfl⟩ := ret_inj h
        exact RU.ret rfl rfl rfl
      · refine RU.ff hc ?_
        refine RU.blk (C' := (171, [some (.ref 19), none, none, some (.int x3), some (.int x4), some (.int x5), some (.int x6)], [.int x6, .ref 33, .int ((((60) * x3) + x4) + x6), .ref 32], σ)) 12 rfl ?_
        obtain ⟨hv, h⟩ := cnd_n h
        refine RU.iald (N := 60) rfl rfl hv ?_
        obtain ⟨hv, h⟩ := cnd_n h
        refine RU.iast (N := 240) rfl rfl hv ?_
        refine RU.blk (C' := (144, [some (.ref 19), none, none, some (.int x3), some (.int x4), some (.int x5), some (.int (x6 + (1)))], [], (sA σ 32 (Int32.toNatClampNeg ((((60) * x3) + x4) + x6)) (gA σ 33 (Int32.toNatClampNeg x6))))) 2 rfl ?_
        exact ih.2 x3 x4 x5 (x6 + (1)) none none _ _ _ h
noncomputable def F_X5_copy (p0 : Int32) (p1 : Int32) (p2 : Int32) (p3 : Int32) (p4 : Int32) (σ : PS) : Option (Int32 × PS) :=
  (F_X5_noSheet p0 σ).bind fun q2 =>
  let v2 := q2.1
  let s2 := q2.2
  bif cNe v2 0 then (
    (F_X5_refused (-1) s2).bind fun q3 =>
    let v3 := q3.1
    let s3 := q3.2
    some (v3, s3)
  ) else (
    (F_X5_noSheet p2 s2).bind fun q4 =>
    let v4 := q4.1
    let s4 := q4.2
    bif cEq v4 0 then (
      bif vin p0 4 then
      bif cLt (gA s4 30 (Int32.toNatClampNeg p0)) 0 then (
        (F_X5_failed (1) s4).bind fun q5 =>
        let v5 := q5.1
        let s5 := q5.2
        some (v5, s5)
      ) else (
        bif vin p2 4 then
        bif cGe (gA s4 30 (Int32.toNatClampNeg p2)) 0 then (
          bif vin p0 4 then
          bif vin p2 4 then
          bif cEq (gA s4 31 (Int32.toNatClampNeg p0)) (gA s4 31 (Int32.toNatClampNeg p2)) then (
            bif vin p0 4 then
            (F_X5_isBeyond p1 (Int32.toInt64 p4) (gA s4 30 (Int32.toNatClampNeg p0)) s4).bind fun q6 =>
            let v6 := q6.1
            let s6 := q6.2
            bif cNe v6 0 then (
              (F_X5_failed (3) s6).bind fun q7 =>
              let v7 := q7.1
              let s7 := q7.2
              some (v7, s7)
            ) else (
              bif vin p2 4 then
              (F_X5_isBeyond p3 (Int32.toInt64 p4) (gA s6 30 (Int32.toNatClampNeg p2)) s6).bind fun q8 =>
              let v8 := q8.1
              let s8 := q8.2
              bif cEq v8 0 then (
                L_X5_copy fuelN  107 p0 p1 p2 p3 p4 (0) s8
              ) else (
                (F_X5_failed (3) s8).bind fun q9 =>
                let v9 := q9.1
                let s9 := q9.2
                some (v9, s9)
              )
              else none
            )
            else none
          ) else (
            (F_X5_failed (2) s4).bind fun q10 =>
            let v10 := q10.1
            let s10 := q10.2
            some (v10, s10)
          )
          else none
          else none
        ) else (
          (F_X5_failed (1) s4).bind fun q11 =>
          let v11 := q11.1
          let s11 := q11.2
          some (v11, s11)
        )
        else none
      )
      else none
    ) else (
      (F_X5_refused (-1) s4).bind fun q12 =>
      let v12 := q12.1
      let s12 := q12.2
      some (v12, s12)
    )
  )
set_option maxRecDepth 50000 in
theorem m_X5_copy (p0 : Int32) (p1 : Int32) (p2 : Int32) (p3 : Int32) (p4 : Int32) (σ : PS) {v : Int32} {σ' : PS} (h : F_X5_copy p0 p1 p2 p3 p4 σ = some (v, σ')) : PR 186 [.ref 19, .int p0, .int p1, .int p2, .int p3, .int p4] σ (some (.int v)) σ' := by
  refine PR.enter (L := [some (.ref 19), some (.int p0), some (.int p1), some (.int p2), some (.int p3), some (.int p4), none]) uT_186 uD_186 rfl rfl ?_
  unfold F_X5_copy at h
  refine RU.blk (C' := (1, [some (.ref 19), some (.int p0), some (.int p1), some (.int p2), some (.int p3), some (.int p4), none], [.int p0], σ)) 1 rfl ?_
  obtain ⟨⟨v2, s2⟩, hk, h⟩ := Option.bind_eq_some_iff.mp h
  dsimp only at h
  refine RU.call (as := [.int p0]) (rest := []) (u := some (.int v2)) (C' := (4, [some (.ref 19), some (.int p0), some (.int p1), some (.int p2), some (.int p3), some (.int p4), none], [.int v2], s2)) rfl rfl (m_X5_noSheet p0 σ hk) rfl rfl ?_
  refine RU.blk (C' := (bif cNe v2 0 then 14 else 7, [some (.ref 19), some (.int p0), some (.int p1), some (.int p2), some (.int p3), some (.int p4), none], [], s2)) 1 rfl ?_
  rcases cnd_some h with ⟨hc, h⟩ | ⟨hc, h⟩
  · refine RU.tt hc ?_
    refine RU.blk (C' := (16, [some (.ref 19), some (.int p0), some (.int p1), some (.int p2), some (.int p3), some (.int p4), none], [.int (-1), .ref 19], s2)) 2 rfl ?_
    obtain ⟨⟨v3, s3⟩, hk, h⟩ := Option.bind_eq_some_iff.mp h
    dsimp only at h
    refine RU.call (as := [.ref 19, .int (-1)]) (rest := []) (u := some (.int v3)) (C' := (19, [some (.ref 19), some (.int p0), some (.int p1), some (.int p2), some (.int p3), some (.int p4), none], [.int v3], s3)) rfl rfl (m_X5_refused (-1) s2 hk) rfl rfl ?_
    obtain ⟨rfl, rfl⟩ := ret_inj h
    exact RU.ret rfl rfl rfl
  · refine RU.ff hc ?_
    refine RU.blk (C' := (8, [some (.ref 19), some (.int p0), some (.int p1), some (.int p2), some (.int p3), some (.int p4), none], [.int p2], s2)) 1 rfl ?_
    obtain ⟨⟨v4, s4⟩, hk, h⟩ := Option.bind_eq_some_iff.mp h
    dsimp only at h
    refine RU.call (as := [.int p2]) (rest := []) (u := some (.int v4)) (C' := (11, [some (.ref 19), some (.int p0), some (.int p1), some (.int p2), some (.int p3), some (.int p4), none], [.int v4], s4)) rfl rfl (m_X5_noSheet p2 s2 hk) rfl rfl ?_
    refine RU.blk (C' := (bif cEq v4 0 then 20 else 14, [some (.ref 19), some (.int p0), some (.int p1), some (.int p2), some (.int p3), some (.int p4), none], [], s4)) 1 rfl ?_
    rcases cnd_some h with ⟨hc, h⟩ | ⟨hc, h⟩
    · refine RU.tt hc ?_
      refine RU.blk (C' := (25, [some (.ref 19), some (.int p0), some (.int p1), some (.int p2), some (.int p3), some (.int p4), none], [.int p0, .ref 30], s4)) 3 rfl ?_
      obtain ⟨hv, h⟩ := cnd_n h
      refine RU.iald (N := 4) rfl rfl hv ?_
      refine RU.blk (C' := (bif cLt (gA s4 30 (Int32.toNatClampNeg p0)) 0 then 38 else 29, [some (.ref 19), some (.int p0), some (.int p1), some (.int p2), some (.int p3), some (.int p4), none], [], s4)) 1 rfl ?_
      rcases cnd_some h with ⟨hc, h⟩ | ⟨hc, h⟩
      · refine RU.tt hc ?_
        refine RU.blk (C' := (40, [some (.ref 19), some (.int p0), some (.int p1), some (.int p2), some (.int p3), some (.int p4), none], [.int (1), .ref 19], s4)) 2 rfl ?_
        obtain ⟨⟨v5, s5⟩, hk, h⟩ := Option.bind_eq_some_iff.mp h
        dsimp only at h
        refine RU.call (as := [.ref 19, .int (1)]) (rest := []) (u := some (.int v5)) (C' := (43, [some (.ref 19), some (.int p0), some (.int p1), some (.int p2), some (.int p3), some (.int p4), none], [.int v5], s5)) rfl rfl (m_X5_failed (1) s4 hk) rfl rfl ?_
        obtain ⟨rfl, rfl⟩ := ret_inj h
        exact RU.ret rfl rfl rfl
      · refine RU.ff hc ?_
        refine RU.blk (C' := (34, [some (.ref 19), some (.int p0), some (.int p1), some (.int p2), some (.int p3), some (.int p4), none], [.int p2, .ref 30], s4)) 3 rfl ?_
        obtain ⟨hv, h⟩ := cnd_n h
        refine RU.iald (N := 4) rfl rfl hv ?_
        refine RU.blk (C' := (bif cGe (gA s4 30 (Int32.toNatClampNeg p2)) 0 then 44 else 38, [some (.ref 19), some (.int p0), some (.int p1), some (.int p2), some (.int p3), some (.int p4), none], [], s4)) 1 rfl ?_
        rcases cnd_some h with ⟨hc, h⟩ | ⟨hc, h⟩
        · refine RU.tt hc ?_
          refine RU.blk (C' := (49, [some (.ref 19), some (.int p0), some (.int p1), some (.int p2), some (.int p3), some (.int p4), none], [.int p0, .ref 31], s4)) 3 rfl ?_
          obtain ⟨hv, h⟩ := cnd_n h
          refine RU.iald (N := 4) rfl rfl hv ?_
          refine RU.blk (C' := (55, [some (.ref 19), some (.int p0), some (.int p1), some (.int p2), some (.int p3), some (.int p4), none], [.int p2, .ref 31, .int (gA s4 31 (Int32.toNatClampNeg p0))], s4)) 3 rfl ?_
          obtain ⟨hv, h⟩ := cnd_n h
          refine RU.iald (N := 4) rfl rfl hv ?_
          refine RU.blk (C' := (bif cEq (gA s4 31 (Int32.toNatClampNeg p0)) (gA s4 31 (Int32.toNatClampNeg p2)) then 65 else 59, [some (.ref 19), some (.int p0), some (.int p1), some (.int p2), some (.int p3), some (.int p4), none], [], s4)) 1 rfl ?_
          rcases cnd_some h with ⟨hc, h⟩ | ⟨hc, h⟩
          · refine RU.tt hc ?_
            refine RU.blk (C' := (74, [some (.ref 19), some (.int p0), some (.int p1), some (.int p2), some (.int p3), some (.int p4), none], [.int p0, .ref 30, .long (Int32.toInt64 p4), .int p1], s4)) 6 rfl ?_
            obtain ⟨hv, h⟩ := cnd_n h
            refine RU.iald (N := 4) rfl rfl hv ?_
            obtain ⟨⟨v6, s6⟩, hk, h⟩ := Option.bind_eq_some_iff.mp h
            dsimp only at h
            refine RU.call (as := [.int p1, .long (Int32.toInt64 p4), .int (gA s4 30 (Int32.toNatClampNeg p0))]) (rest := []) (u := some (.int v6)) (C' := (78, [some (.ref 19), some (.int p0), some (.int p1), some (.int p2), some (.int p3), some (.int p4), none], [.int v6], s6)) rfl rfl (m_X5_isBeyond p1 (Int32.toInt64 p4) (gA s4 30 (Int32.toNatClampNeg p0)) s4 hk) rfl rfl ?_
            refine RU.blk (C' := (bif cNe v6 0 then 98 else 81, [some (.ref 19), some (.int p0), some (.int p1), some (.int p2), some (.int p3), some (.int p4), none], [], s6)) 1 rfl ?_
            rcases cnd_some h with ⟨hc, h⟩ | ⟨hc, h⟩
            · refine RU.tt hc ?_
              refine RU.blk (C' := (100, [some (.ref 19), some (.int p0), some (.int p1), some (.int p2), some (.int p3), some (.int p4), none], [.int (3), .ref 19], s6)) 2 rfl ?_
              obtain ⟨⟨v7, s7⟩, hk, h⟩ := Option.bind_eq_some_iff.mp h
              dsimp only at h
              refine RU.call (as := [.ref 19, .int (3)]) (rest := []) (u := some (.int v7)) (C' := (103, [some (.ref 19), some (.int p0), some (.int p1), some (.int p2), some (.int p3), some (.int p4), none], [.int v7], s7)) rfl rfl (m_X5_failed (3) s6 hk) rfl rfl ?_
              obtain ⟨rfl, rfl⟩ := ret_inj h
              exact RU.ret rfl rfl rfl
            · refine RU.ff hc ?_
              refine RU.blk (C' := (91, [some (.ref 19), some (.int p0), some (.int p1), some (.int p2), some (.int p3), some (.int p4), none], [.int p2, .ref 30, .long (Int32.toInt64 p4), .int p3], s6)) 6 rfl ?_
              obtain ⟨hv, h⟩ := cnd_n h
              refine RU.iald (N := 4) rfl rfl hv ?_
              obtain ⟨⟨v8, s8⟩, hk, h⟩ := Option.bind_eq_some_iff.mp h
              dsimp only at h
              refine RU.call (as := [.int p3, .long (Int32.toInt64 p4), .int (gA s6 30 (Int32.toNatClampNeg p2))]) (rest := []) (u := some (.int v8)) (C' := (95, [some (.ref 19), some (.int p0), some (.int p1), some (.int p2), some (.int p3), some (.int p4), none], [.int v8], s8)) rfl rfl (m_X5_isBeyond p3 (Int32.toInt64 p4) (gA s6 30 (Int32.toNatClampNeg p2)) s6 hk) rfl rfl ?_
              refine RU.blk (C' := (bif cEq v8 0 then 104 else 98, [some (.ref 19), some (.int p0), some (.int p1), some (.int p2), some (.int p3), some (.int p4), none], [], s8)) 1 rfl ?_
              rcases cnd_some h with ⟨hc, h⟩ | ⟨hc, h⟩
              · refine RU.tt hc ?_
                refine RU.blk (C' := (107, [some (.ref 19), some (.int p0), some (.int p1), some (.int p2), some (.int p3), some (.int p4), some (.int (0))], [], s8)) 2 rfl ?_
                exact (ml_X5_copy fuelN).1 p0 p1 p2 p3 p4 (0) _ _ _ h
              · refine RU.ff hc ?_
                refine RU.blk (C' := (100, [some (.ref 19), some (.int p0), some (.int p1), some (.int p2), some (.int p3), some (.int p4), none], [.int (3), .ref 19], s8)) 2 rfl ?_
                obtain ⟨⟨v9, s9⟩, hk, h⟩ := Option.bind_eq_some_iff.mp h
                dsimp only at h
                refine RU.call (as := [.ref 19, .int (3)]) (rest := []) (u := some (.int v9)) (C' := (103, [some (.ref 19), some (.int p0), some (.int p1), some (.int p2), some (.int p3), some (.int p4), none], [.int v9], s9)) rfl rfl (m_X5_failed (3) s8 hk) rfl rfl ?_
                obtain ⟨rfl, rfl⟩ := ret_inj h
                exact RU.ret rfl rfl rfl
          · refine RU.ff hc ?_
            refine RU.blk (C' := (61, [some (.ref 19), some (.int p0), some (.int p1), some (.int p2), some (.int p3), some (.int p4), none], [.int (2), .ref 19], s4)) 2 rfl ?_
            obtain ⟨⟨v10, s10⟩, hk, h⟩ := Option.bind_eq_some_iff.mp h
            dsimp only at h
            refine RU.call (as := [.ref 19, .int (2)]) (rest := []) (u := some (.int v10)) (C' := (64, [some (.ref 19), some (.int p0), some (.int p1), some (.int p2), some (.int p3), some (.int p4), none], [.int v10], s10)) rfl rfl (m_X5_failed (2) s4 hk) rfl rfl ?_
            obtain ⟨rfl, rfl⟩ := ret_inj h
            exact RU.ret rfl rfl rfl
        · refine RU.ff hc ?_
          refine RU.blk (C' := (40, [some (.ref 19), some (.int p0), some (.int p1), some (.int p2), some (.int p3), some (.int p4), none], [.int (1), .ref 19], s4)) 2 rfl ?_
          obtain ⟨⟨v11, s11⟩, hk, h⟩ := Option.bind_eq_some_iff.mp h
          dsimp only at h
          refine RU.call (as := [.ref 19, .int (1)]) (rest := []) (u := some (.int v11)) (C' := (43, [some (.ref 19), some (.int p0), some (.int p1), some (.int p2), some (.int p3), some (.int p4), none], [.int v11], s11)) rfl rfl (m_X5_failed (1) s4 hk) rfl rfl ?_
          obtain ⟨rfl, rfl⟩ := ret_inj h
          exact RU.ret rfl rfl rfl
    · refine RU.ff hc ?_
      refine RU.blk (C' := (16, [some (.ref 19), some (.int p0), some (.int p1), some (.int p2), some (.int p3), some (.int p4), none], [.int (-1), .ref 19], s4)) 2 rfl ?_
      obtain ⟨⟨v12, s12⟩, hk, h⟩ := Option.bind_eq_some_iff.mp h
      dsimp only at h
      refine RU.call (as := [.ref 19, .int (-1)]) (rest := []) (u := some (.int v12)) (C' := (19, [some (.ref 19), some (.int p0), some (.int p1), some (.int p2), some (.int p3), some (.int p4), none], [.int v12], s12)) rfl rfl (m_X5_refused (-1) s4 hk) rfl rfl ?_
      obtain ⟨rfl, rfl⟩ := ret_inj h
      exact RU.ret rfl rfl rfl
noncomputable def F_X5_traced (p0 : Int32) (σ : PS) : Option (Unit × PS) :=
  some ((), (sI σ 1249 (((31) * (gI σ 1249)) + p0)))
set_option maxRecDepth 50000 in
theorem m_X5_traced (p0 : Int32) (σ : PS) {v : Unit} {σ' : PS} (h : F_X5_traced p0 σ = some (v, σ')) : PR 187 [.ref 19, .int p0] σ (none) σ' := by
  refine PR.enter (L := [some (.ref 19), some (.int p0)]) uT_187 uD_187 rfl rfl ?_
  unfold F_X5_traced at h
  refine RU.blk (C' := (13, [some (.ref 19), some (.int p0)], [], (sI σ 1249 (((31) * (gI σ 1249)) + p0)))) 8 rfl ?_
  obtain ⟨rfl, rfl⟩ := ret_inj h
  exact RU.ret rfl rfl rfl
noncomputable def F_X5_tell (p0 : Int32) (σ : PS) : Option (Int32 × PS) :=
  (F_X5_noLooker p0 σ).bind fun q1 =>
  let v1 := q1.1
  let s1 := q1.2
  bif cEq v1 0 then (
    bif vin p0 4 then
    bif cNe (gA s1 21 (Int32.toNatClampNeg p0)) (2) then (
      bif cLe (gA s1 21 (Int32.toNatClampNeg p0)) 0 then (
        (F_X5_traced (1) s1).bind fun q2 =>
        let s2 := q2.2
        bif cNe (gA s1 21 (Int32.toNatClampNeg p0)) (2) then (
          bif vin p0 4 then
          bif cNe (gA s1 21 (Int32.toNatClampNeg p0)) 0 then (
            bif cNe (gA s1 21 (Int32.toNatClampNeg p0)) (1) then (
              some ((((2) * (gA s2 22 (Int32.toNatClampNeg p0))) + (100)), s2)
            ) else (
              some (((gA s2 22 (Int32.toNatClampNeg p0)) + (100)), s2)
            )
          ) else (
            some ((gA s2 22 (Int32.toNatClampNeg p0)), s2)
          )
          else none
        ) else (
          (F_X5_traced (1) s2).bind fun q3 =>
          let s3 := q3.2
          bif vin p0 4 then
          bif cNe (gA s1 21 (Int32.toNatClampNeg p0)) 0 then (
            bif cNe (gA s1 21 (Int32.toNatClampNeg p0)) (1) then (
              some ((((2) * (gA s3 22 (Int32.toNatClampNeg p0))) + (100)), s3)
            ) else (
              some (((gA s3 22 (Int32.toNatClampNeg p0)) + (100)), s3)
            )
          ) else (
            some ((gA s3 22 (Int32.toNatClampNeg p0)), s3)
          )
          else none
        )
      ) else (
        (F_X5_traced (2) s1).bind fun q4 =>
        let s4 := q4.2
        (F_X5_traced (1) s4).bind fun q5 =>
        let s5 := q5.2
        bif cNe (gA s1 21 (Int32.toNatClampNeg p0)) (2) then (
          bif vin p0 4 then
          bif cNe (gA s1 21 (Int32.toNatClampNeg p0)) 0 then (
            bif cNe (gA s1 21 (Int32.toNatClampNeg p0)) (1) then (
              some ((((2) * (gA s5 22 (Int32.toNatClampNeg p0))) + (100)), s5)
            ) else (
              some (((gA s5 22 (Int32.toNatClampNeg p0)) + (100)), s5)
            )
          ) else (
            some ((gA s5 22 (Int32.toNatClampNeg p0)), s5)
          )
          else none
        ) else (
          (F_X5_traced (1) s5).bind fun q6 =>
          let s6 := q6.2
          bif vin p0 4 then
          bif cNe (gA s1 21 (Int32.toNatClampNeg p0)) 0 then (
            bif cNe (gA s1 21 (Int32.toNatClampNeg p0)) (1) then (
              some ((((2) * (gA s6 22 (Int32.toNatClampNeg p0))) + (100)), s6)
            ) else (
              some (((gA s6 22 (Int32.toNatClampNeg p0)) + (100)), s6)
            )
          ) else (
            some ((gA s6 22 (Int32.toNatClampNeg p0)), s6)
          )
          else none
        )
      )
    ) else (
      (F_X5_traced (3) s1).bind fun q7 =>
      let s7 := q7.2
      bif cLe (gA s1 21 (Int32.toNatClampNeg p0)) 0 then (
        (F_X5_traced (1) s7).bind fun q8 =>
        let s8 := q8.2
        bif cNe (gA s1 21 (Int32.toNatClampNeg p0)) (2) then (
          bif vin p0 4 then
          bif cNe (gA s1 21 (Int32.toNatClampNeg p0)) 0 then (
            bif cNe (gA s1 21 (Int32.toNatClampNeg p0)) (1) then (
              some ((((2) * (gA s8 22 (Int32.toNatClampNeg p0))) + (100)), s8)
            ) else (
              some (((gA s8 22 (Int32.toNatClampNeg p0)) + (100)), s8)
            )
          ) else (
            some ((gA s8 22 (Int32.toNatClampNeg p0)), s8)
          )
          else none
        ) else (
          (F_X5_traced (1) s8).bind fun q9 =>
          let s9 := q9.2
          bif vin p0 4 then
          bif cNe (gA s1 21 (Int32.toNatClampNeg p0)) 0 then (
            bif cNe (gA s1 21 (Int32.toNatClampNeg p0)) (1) then (
              some ((((2) * (gA s9 22 (Int32.toNatClampNeg p0))) + (100)), s9)
            ) else (
              some (((gA s9 22 (Int32.toNatClampNeg p0)) + (100)), s9)
            )
          ) else (
            some ((gA s9 22 (Int32.toNatClampNeg p0)), s9)
          )
          else none
        )
      ) else (
        (F_X5_traced (2) s7).bind fun q10 =>
        let s10 := q10.2
        (F_X5_traced (1) s10).bind fun q11 =>
        let s11 := q11.2
        bif cNe (gA s1 21 (Int32.toNatClampNeg p0)) (2) then (
          bif vin p0 4 then
          bif cNe (gA s1 21 (Int32.toNatClampNeg p0)) 0 then (
            bif cNe (gA s1 21 (Int32.toNatClampNeg p0)) (1) then (
              some ((((2) * (gA s11 22 (Int32.toNatClampNeg p0))) + (100)), s11)
            ) else (
              some (((gA s11 22 (Int32.toNatClampNeg p0)) + (100)), s11)
            )
          ) else (
            some ((gA s11 22 (Int32.toNatClampNeg p0)), s11)
          )
          else none
        ) else (
          (F_X5_traced (1) s11).bind fun q12 =>
          let s12 := q12.2
          bif vin p0 4 then
          bif cNe (gA s1 21 (Int32.toNatClampNeg p0)) 0 then (
            bif cNe (gA s1 21 (Int32.toNatClampNeg p0)) (1) then (
              some ((((2) * (gA s12 22 (Int32.toNatClampNeg p0))) + (100)), s12)
            ) else (
              some (((gA s12 22 (Int32.toNatClampNeg p0)) + (100)), s12)
            )
          ) else (
            some ((gA s12 22 (Int32.toNatClampNeg p0)), s12)
          )
          else none
        )
      )
    )
    else none
  ) else (
    some ((-1), s1)
  )
set_option maxRecDepth 50000 in
theorem m_X5_tell (p0 : Int32) (σ : PS) {v : Int32} {σ' : PS} (h : F_X5_tell p0 σ = some (v, σ')) : PR 188 [.ref 19, .int p0] σ (some (.int v)) σ' := by
  refine PR.enter (L := [some (.ref 19), some (.int p0), none, none]) uT_188 uD_188 rfl rfl ?_
  unfold F_X5_tell at h
  refine RU.blk (C' := (2, [some (.ref 19), some (.int p0), none, none], [.int p0, .ref 19], σ)) 2 rfl ?_
  obtain ⟨⟨v1, s1⟩, hk, h⟩ := Option.bind_eq_some_iff.mp h
  dsimp only at h
  refine RU.call (as := [.ref 19, .int p0]) (rest := []) (u := some (.int v1)) (C' := (5, [some (.ref 19), some (.int p0), none, none], [.int v1], s1)) rfl rfl (m_X5_noLooker p0 σ hk) rfl rfl ?_
  refine RU.blk (C' := (bif cEq v1 0 then 10 else 8, [some (.ref 19), some (.int p0), none, none], [], s1)) 1 rfl ?_
  rcases cnd_some h with ⟨hc, h⟩ | ⟨hc, h⟩
  · refine RU.tt hc ?_
    refine RU.blk (C' := (15, [some (.ref 19), some (.int p0), none, none], [.int p0, .ref 21], s1)) 3 rfl ?_
    obtain ⟨hv, h⟩ := cnd_n h
    refine RU.iald (N := 4) rfl rfl hv ?_
    refine RU.blk (C' := (bif cNe (gA s1 21 (Int32.toNatClampNeg p0)) (2) then 27 else 22, [some (.ref 19), some (.int p0), some (.int (gA s1 21 (Int32.toNatClampNeg p0))), none], [], s1)) 4 rfl ?_
    rcases cnd_some h with ⟨hc, h⟩ | ⟨hc, h⟩
    · refine RU.tt hc ?_
      refine RU.blk (C' := (bif cLe (gA s1 21 (Int32.toNatClampNeg p0)) 0 then 36 else 31, [some (.ref 19), some (.int p0), some (.int (gA s1 21 (Int32.toNatClampNeg p0))), none], [], s1)) 2 rfl ?_
      rcases cnd_some h with ⟨hc, h⟩ | ⟨hc, h⟩
      · refine RU.tt hc ?_
        refine RU.blk (C' := (38, [some (.ref 19), some (.int p0), some (.int (gA s1 21 (Int32.toNatClampNeg p0))), none], [.int (1), .ref 19], s1)) 2 rfl ?_
        obtain ⟨⟨v2, s2⟩, hk, h⟩ := Option.bind_eq_some_iff.mp h
        dsimp only at h
        refine RU.call (as := [.ref 19, .int (1)]) (rest := []) (u := none) (C' := (41, [some (.ref 19), some (.int p0), some (.int (gA s1 21 (Int32.toNatClampNeg p0))), none], [], s2)) rfl rfl (m_X5_traced (1) s1 hk) rfl rfl ?_
        refine RU.blk (C' := (bif cNe (gA s1 21 (Int32.toNatClampNeg p0)) (2) then 51 else 46, [some (.ref 19), some (.int p0), some (.int (gA s1 21 (Int32.toNatClampNeg p0))), none], [], s2)) 3 rfl ?_
        rcases cnd_some h with ⟨hc, h⟩ | ⟨hc, h⟩
        · refine RU.tt hc ?_
          refine RU.blk (C' := (56, [some (.ref 19), some (.int p0), some (.int (gA s1 21 (Int32.toNatClampNeg p0))), none], [.int p0, .ref 22], s2)) 3 rfl ?_
          obtain ⟨hv, h⟩ := cnd_n h
          refine RU.iald (N := 4) rfl rfl hv ?_
          refine RU.blk (C' := (bif cNe (gA s1 21 (Int32.toNatClampNeg p0)) 0 then 66 else 62, [some (.ref 19), some (.int p0), some (.int (gA s1 21 (Int32.toNatClampNeg p0))), some (.int (gA s2 22 (Int32.toNatClampNeg p0)))], [], s2)) 3 rfl ?_
          rcases cnd_some h with ⟨hc, h⟩ | ⟨hc, h⟩
          · refine RU.tt hc ?_
            refine RU.blk (C' := (bif cNe (gA s1 21 (Int32.toNatClampNeg p0)) (1) then 78 else 71, [some (.ref 19), some (.int p0), some (.int (gA s1 21 (Int32.toNatClampNeg p0))), some (.int (gA s2 22 (Int32.toNatClampNeg p0)))], [], s2)) 3 rfl ?_
            rcases cnd_some h with ⟨hc, h⟩ | ⟨hc, h⟩
            · refine RU.tt hc ?_
              refine RU.blk (C' := (84, [some (.ref 19), some (.int p0), some (.int (gA s1 21 (Int32.toNatClampNeg p0))), some (.int (gA s2 22 (Int32.toNatClampNeg p0)))], [.int (((2) * (gA s2 22 (Int32.toNatClampNeg p0))) + (100))], s2)) 5 rfl ?_
              obtain ⟨rfl, rfl⟩ := ret_inj h
              exact RU.ret rfl rfl rfl
            · refine RU.ff hc ?_
              refine RU.blk (C' := (84, [some (.ref 19), some (.int p0), some (.int (gA s1 21 (Int32.toNatClampNeg p0))), some (.int (gA s2 22 (Int32.toNatClampNeg p0)))], [.int ((gA s2 22 (Int32.toNatClampNeg p0)) + (100))], s2)) 4 rfl ?_
              obtain ⟨rfl, rfl⟩ := ret_inj h
              exact RU.ret rfl rfl rfl
          · refine RU.ff hc ?_
            refine RU.blk (C' := (84, [some (.ref 19), some (.int p0), some (.int (gA s1 21 (Int32.toNatClampNeg p0))), some (.int (gA s2 22 (Int32.toNatClampNeg p0)))], [.int (gA s2 22 (Int32.toNatClampNeg p0))], s2)) 2 rfl ?_
            obtain ⟨rfl, rfl⟩ := ret_inj h
            exact RU.ret rfl rfl rfl
        · refine RU.ff hc ?_
          refine RU.blk (C' := (48, [some (.ref 19), some (.int p0), some (.int (gA s1 21 (Int32.toNatClampNeg p0))), none], [.int (1), .ref 19], s2)) 2 rfl ?_
          obtain ⟨⟨v3, s3⟩, hk, h⟩ := Option.bind_eq_some_iff.mp h
          dsimp only at h
          refine RU.call (as := [.ref 19, .int (1)]) (rest := []) (u := none) (C' := (51, [some (.ref 19), some (.int p0), some (.int (gA s1 21 (Int32.toNatClampNeg p0))), none], [], s3)) rfl rfl (m_X5_traced (1) s2 hk) rfl rfl ?_
          refine RU.blk (C' := (56, [some (.ref 19), some (.int p0), some (.int (gA s1 21 (Int32.toNatClampNeg p0))), none], [.int p0, .ref 22], s3)) 3 rfl ?_
          obtain ⟨hv, h⟩ := cnd_n h
          refine RU.iald (N := 4) rfl rfl hv ?_
          refine RU.blk (C' := (bif cNe (gA s1 21 (Int32.toNatClampNeg p0)) 0 then 66 else 62, [some (.ref 19), some (.int p0), some (.int (gA s1 21 (Int32.toNatClampNeg p0))), some (.int (gA s3 22 (Int32.toNatClampNeg p0)))], [], s3)) 3 rfl ?_
          rcases cnd_some h with ⟨hc, h⟩ | ⟨hc, h⟩
          · refine RU.tt hc ?_
            refine RU.blk (C' := (bif cNe (gA s1 21 (Int32.toNatClampNeg p0)) (1) then 78 else 71, [some (.ref 19), some (.int p0), some (.int (gA s1 21 (Int32.toNatClampNeg p0))), some (.int (gA s3 22 (Int32.toNatClampNeg p0)))], [], s3)) 3 rfl ?_
            rcases cnd_some h with ⟨hc, h⟩ | ⟨hc, h⟩
            · refine RU.tt hc ?_
              refine RU.blk (C' := (84, [some (.ref 19), some (.int p0), some (.int (gA s1 21 (Int32.toNatClampNeg p0))), some (.int (gA s3 22 (Int32.toNatClampNeg p0)))], [.int (((2) * (gA s3 22 (Int32.toNatClampNeg p0))) + (100))], s3)) 5 rfl ?_
              obtain ⟨rfl, rfl⟩ := ret_inj h
              exact RU.ret rfl rfl rfl
            · refine RU.ff hc ?_
              refine RU.blk (C' := (84, [some (.ref 19), some (.int p0), some (.int (gA s1 21 (Int32.toNatClampNeg p0))), some (.int (gA s3 22 (Int32.toNatClampNeg p0)))], [.int ((gA s3 22 (Int32.toNatClampNeg p0)) + (100))], s3)) 4 rfl ?_
              obtain ⟨rfl, rfl⟩ := ret_inj h
              exact RU.ret rfl rfl rfl
          · refine RU.ff hc ?_
            refine RU.blk (C' := (84, [some (.ref 19), some (.int p0), some (.int (gA s1 21 (Int32.toNatClampNeg p0))), some (.int (gA s3 22 (Int32.toNatClampNeg p0)))], [.int (gA s3 22 (Int32.toNatClampNeg p0))], s3)) 2 rfl ?_
            obtain ⟨rfl, rfl⟩ := ret_inj h
            exact RU.ret rfl rfl rfl
      · refine RU.ff hc ?_
        refine RU.blk (C' := (33, [some (.ref 19), some (.int p0), some (.int (gA s1 21 (Int32.toNatClampNeg p0))), none], [.int (2), .ref 19], s1)) 2 rfl ?_
        obtain ⟨⟨v4, s4⟩, hk, h⟩ := Option.bind_eq_some_iff.mp h
        dsimp only at h
        refine RU.call (as := [.ref 19, .int (2)]) (rest := []) (u := none) (C' := (36, [some (.ref 19), some (.int p0), some (.int (gA s1 21 (Int32.toNatClampNeg p0))), none], [], s4)) rfl rfl (m_X5_traced (2) s1 hk) rfl rfl ?_
        refine RU.blk (C' := (38, [some (.ref 19), some (.int p0), some (.int (gA s1 21 (Int32.toNatClampNeg p0))), none], [.int (1), .ref 19], s4)) 2 rfl ?_
        obtain ⟨⟨v5, s5⟩, hk, h⟩ := Option.bind_eq_some_iff.mp h
        dsimp only at h
        refine RU.call (as := [.ref 19, .int (1)]) (rest := []) (u := none) (C' := (41, [some (.ref 19), some (.int p0), some (.int (gA s1 21 (Int32.toNatClampNeg p0))), none], [], s5)) rfl rfl (m_X5_traced (1) s4 hk) rfl rfl ?_
        refine RU.blk (C' := (bif cNe (gA s1 21 (Int32.toNatClampNeg p0)) (2) then 51 else 46, [some (.ref 19), some (.int p0), some (.int (gA s1 21 (Int32.toNatClampNeg p0))), none], [], s5)) 3 rfl ?_
        rcases cnd_some h with ⟨hc, h⟩ | ⟨hc, h⟩
        · refine RU.tt hc ?_
          refine RU.blk (C' := (56, [some (.ref 19), some (.int p0), some (.int (gA s1 21 (Int32.toNatClampNeg p0))), none], [.int p0, .ref 22], s5)) 3 rfl ?_
          obtain ⟨hv, h⟩ := cnd_n h
          refine RU.iald (N := 4) rfl rfl hv ?_
          refine RU.blk (C' := (bif cNe (gA s1 21 (Int32.toNatClampNeg p0)) 0 then 66 else 62, [some (.ref 19), some (.int p0), some (.int (gA s1 21 (Int32.toNatClampNeg p0))), some (.int (gA s5 22 (Int32.toNatClampNeg p0)))], [], s5)) 3 rfl ?_
          rcases cnd_some h with ⟨hc, h⟩ | ⟨hc, h⟩
          · refine RU.tt hc ?_
            refine RU.blk (C' := (bif cNe (gA s1 21 (Int32.toNatClampNeg p0)) (1) then 78 else 71, [some (.ref 19), some (.int p0), some (.int (gA s1 21 (Int32.toNatClampNeg p0))), some (.int (gA s5 22 (Int32.toNatClampNeg p0)))], [], s5)) 3 rfl ?_
            rcases cnd_some h with ⟨hc, h⟩ | ⟨hc, h⟩
            · refine RU.tt hc ?_
              refine RU.blk (C' := (84, [some (.ref 19), some (.int p0), some (.int (gA s1 21 (Int32.toNatClampNeg p0))), some (.int (gA s5 22 (Int32.toNatClampNeg p0)))], [.int (((2) * (gA s5 22 (Int32.toNatClampNeg p0))) + (100))], s5)) 5 rfl ?_
              obtain ⟨rfl, rfl⟩ := ret_inj h
              exact RU.ret rfl rfl rfl
            · refine RU.ff hc ?_
              refine RU.blk (C' := (84, [some (.ref 19), some (.int p0), some (.int (gA s1 21 (Int32.toNatClampNeg p0))), some (.int (gA s5 22 (Int32.toNatClampNeg p0)))], [.int ((gA s5 22 (Int32.toNatClampNeg p0)) + (100))], s5)) 4 rfl ?_
              obtain ⟨rfl, rfl⟩ := ret_inj h
              exact RU.ret rfl rfl rfl
          · refine RU.ff hc ?_
            refine RU.blk (C' := (84, [some (.ref 19), some (.int p0), some (.int (gA s1 21 (Int32.toNatClampNeg p0))), some (.int (gA s5 22 (Int32.toNatClampNeg p0)))], [.int (gA s5 22 (Int32.toNatClampNeg p0))], s5)) 2 rfl ?_
            obtain ⟨rfl, rfl⟩ := ret_inj h
            exact RU.ret rfl rfl rfl
        · refine RU.ff hc ?_
          refine RU.blk (C' := (48, [some (.ref 19), some (.int p0), some (.int (gA s1 21 (Int32.toNatClampNeg p0))), none], [.int (1), .ref 19], s5)) 2 rfl ?_
          obtain ⟨⟨v6, s6⟩, hk, h⟩ := Option.bind_eq_some_iff.mp h
          dsimp only at h
          refine RU.call (as := [.ref 19, .int (1)]) (rest := []) (u := none) (C' := (51, [some (.ref 19), some (.int p0), some (.int (gA s1 21 (Int32.toNatClampNeg p0))), none], [], s6)) rfl rfl (m_X5_traced (1) s5 hk) rfl rfl ?_
          refine RU.blk (C' := (56, [some (.ref 19), some (.int p0), some (.int (gA s1 21 (Int32.toNatClampNeg p0))), none], [.int p0, .ref 22], s6)) 3 rfl ?_
          obtain ⟨hv, h⟩ := cnd_n h
          refine RU.iald (N := 4) rfl rfl hv ?_
          refine RU.blk (C' := (bif cNe (gA s1 21 (Int32.toNatClampNeg p0)) 0 then 66 else 62, [some (.ref 19), some (.int p0), some (.int (gA s1 21 (Int32.toNatClampNeg p0))), some (.int (gA s6 22 (Int32.toNatClampNeg p0)))], [], s6)) 3 rfl ?_
          rcases cnd_some h with ⟨hc, h⟩ | ⟨hc, h⟩
          · refine RU.tt hc ?_
            refine RU.blk (C' := (bif cNe (gA s1 21 (Int32.toNatClampNeg p0)) (1) then 78 else 71, [some (.ref 19), some (.int p0), some (.int (gA s1 21 (Int32.toNatClampNeg p0))), some (.int (gA s6 22 (Int32.toNatClampNeg p0)))], [], s6)) 3 rfl ?_
            rcases cnd_some h with ⟨hc, h⟩ | ⟨hc, h⟩
            · refine RU.tt hc ?_
              refine RU.blk (C' := (84, [some (.ref 19), some (.int p0), some (.int (gA s1 21 (Int32.toNatClampNeg p0))), some (.int (gA s6 22 (Int32.toNatClampNeg p0)))], [.int (((2) * (gA s6 22 (Int32.toNatClampNeg p0))) + (100))], s6)) 5 rfl ?_
              obtain ⟨rfl, rfl⟩ := ret_inj h
              exact RU.ret rfl rfl rfl
            · refine RU.ff hc ?_
              refine RU.blk (C' := (84, [some (.ref 19), some (.int p0), some (.int (gA s1 21 (Int32.toNatClampNeg p0))), some (.int (gA s6 22 (Int32.toNatClampNeg p0)))], [.int ((gA s6 22 (Int32.toNatClampNeg p0)) + (100))], s6)) 4 rfl ?_
              obtain ⟨rfl, rfl⟩ := ret_inj h
              exact RU.ret rfl rfl rfl
          · refine RU.ff hc ?_
            refine RU.blk (C' := (84, [some (.ref 19), some (.int p0), some (.int (gA s1 21 (Int32.toNatClampNeg p0))), some (.int (gA s6 22 (Int32.toNatClampNeg p0)))], [.int (gA s6 22 (Int32.toNatClampNeg p0))], s6)) 2 rfl ?_
            obtain ⟨rfl, rfl⟩ := ret_inj h
            exact RU.ret rfl rfl rfl
    · refine RU.ff hc ?_
      refine RU.blk (C' := (24, [some (.ref 19), some (.int p0), some (.int (gA s1 21 (Int32.toNatClampNeg p0))), none], [.int (3), .ref 19], s1)) 2 rfl ?_
      obtain ⟨⟨v7, s7⟩, hk, h⟩ := Option.bind_eq_some_iff.mp h
      dsimp only at h
      refine RU.call (as := [.ref 19, .int (3)]) (rest := []) (u := none) (C' := (27, [some (.ref 19), some (.int p0), some (.int (gA s1 21 (Int32.toNatClampNeg p0))), none], [], s7)) rfl rfl (m_X5_traced (3) s1 hk) rfl rfl ?_
      refine RU.blk (C' := (bif cLe (gA s1 21 (Int32.toNatClampNeg p0)) 0 then 36 else 31, [some (.ref 19), some (.int p0), some (.int (gA s1 21 (Int32.toNatClampNeg p0))), none], [], s7)) 2 rfl ?_
      rcases cnd_some h with ⟨hc, h⟩ | ⟨hc, h⟩
      · refine RU.tt hc ?_
        refine RU.blk (C' := (38, [some (.ref 19), some (.int p0), some (.int (gA s1 21 (Int32.toNatClampNeg p0))), none], [.int (1), .ref 19], s7)) 2 rfl ?_
        obtain ⟨⟨v8, s8⟩, hk, h⟩ := Option.bind_eq_some_iff.mp h
        dsimp only at h
        refine RU.call (as := [.ref 19, .int (1)]) (rest := []) (u := none) (C' := (41, [some (.ref 19), some (.int p0), some (.int (gA s1 21 (Int32.toNatClampNeg p0))), none], [], s8)) rfl rfl (m_X5_traced (1) s7 hk) rfl rfl ?_
        refine RU.blk (C' := (bif cNe (gA s1 21 (Int32.toNatClampNeg p0)) (2) then 51 else 46, [some (.ref 19), some (.int p0), some (.int (gA s1 21 (Int32.toNatClampNeg p0))), none], [], s8)) 3 rfl ?_
        rcases cnd_some h with ⟨hc, h⟩ | ⟨hc, h⟩
        · refine RU.tt hc ?_
          refine RU.blk (C' := (56, [some (.ref 19), some (.int p0), some (.int (gA s1 21 (Int32.toNatClampNeg p0))), none], [.int p0, .ref 22], s8)) 3 rfl ?_
          obtain ⟨hv, h⟩ := cnd_n h
          refine RU.iald (N := 4) rfl rfl hv ?_
          refine RU.blk (C' := (bif cNe (gA s1 21 (Int32.toNatClampNeg p0)) 0 then 66 else 62, [some (.ref 19), some (.int p0), some (.int (gA s1 21 (Int32.toNatClampNeg p0))), some (.int (gA s8 22 (Int32.toNatClampNeg p0)))], [], s8)) 3 rfl ?_
          rcases cnd_some h with ⟨hc, h⟩ | ⟨hc, h⟩
          · refine RU.tt hc ?_
            refine RU.blk (C' := (bif cNe (gA s1 21 (Int32.toNatClampNeg p0)) (1) then 78 else 71, [some (.ref 19), some (.int p0), some (.int (gA s1 21 (Int32.toNatClampNeg p0))), some (.int (gA s8 22 (Int32.toNatClampNeg p0)))], [], s8)) 3 rfl ?_
            rcases cnd_some h with ⟨hc, h⟩ | ⟨hc, h⟩
            · refine RU.tt hc ?_
              refine RU.blk (C' := (84, [some (.ref 19), some (.int p0), some (.int (gA s1 21 (Int32.toNatClampNeg p0))), some (.int (gA s8 22 (Int32.toNatClampNeg p0)))], [.int (((2) * (gA s8 22 (Int32.toNatClampNeg p0))) + (100))], s8)) 5 rfl ?_
              obtain ⟨rfl, rfl⟩ := ret_inj h
              exact RU.ret rfl rfl rfl
            · refine RU.ff hc ?_
              refine RU.blk (C' := (84, [some (.ref 19), some (.int p0), some (.int (gA s1 21 (Int32.toNatClampNeg p0))), some (.int (gA s8 22 (Int32.toNatClampNeg p0)))], [.int ((gA s8 22 (Int32.toNatClampNeg p0)) + (100))], s8)) 4 rfl ?_
              obtain ⟨rfl, rfl⟩ := ret_inj h
              exact RU.ret rfl rfl rfl
          · refine RU.ff hc ?_
            refine RU.blk (C' := (84, [some (.ref 19), some (.int p0), some (.int (gA s1 21 (Int32.toNatClampNeg p0))), some (.int (gA s8 22 (Int32.toNatClampNeg p0)))], [.int (gA s8 22 (Int32.toNatClampNeg p0))], s8)) 2 rfl ?_
            obtain ⟨rfl, rfl⟩ := ret_inj h
            exact RU.ret rfl rfl rfl
        · refine RU.ff hc ?_
          refine RU.blk (C' := (48, [some (.ref 19), some (.int p0), some (.int (gA s1 21 (Int32.toNatClampNeg p0))), none], [.int (1), .ref 19], s8)) 2 rfl ?_
          obtain ⟨⟨v9, s9⟩, hk, h⟩ := Option.bind_eq_some_iff.mp h
          dsimp only at h
          refine RU.call (as := [.ref 19, .int (1)]) (rest := []) (u := none) (C' := (51, [some (.ref 19), some (.int p0), some (.int (gA s1 21 (Int32.toNatClampNeg p0))), none], [], s9)) rfl rfl (m_X5_traced (1) s8 hk) rfl rfl ?_
          refine RU.blk (C' := (56, [some (.ref 19), some (.int p0), some (.int (gA s1 21 (Int32.toNatClampNeg p0))), none], [.int p0, .ref 22], s9)) 3 rfl ?_
          obtain ⟨hv, h⟩ := cnd_n h
          refine RU.iald (N := 4) rfl rfl hv ?_
          refine RU.blk (C' := (bif cNe (gA s1 21 (Int32.toNatClampNeg p0)) 0 then 66 else 62, [some (.ref 19), some (.int p0), some (.int (gA s1 21 (Int32.toNatClampNeg p0))), some (.int (gA s9 22 (Int32.toNatClampNeg p0)))], [], s9)) 3 rfl ?_
          rcases cnd_some h with ⟨hc, h⟩ | ⟨hc, h⟩
          · refine RU.tt hc ?_
            refine RU.blk (C' := (bif cNe (gA s1 21 (Int32.toNatClampNeg p0)) (1) then 78 else 71, [some (.ref 19), some (.int p0), some (.int (gA s1 21 (Int32.toNatClampNeg p0))), some (.int (gA s9 22 (Int32.toNatClampNeg p0)))], [], s9)) 3 rfl ?_
            rcases cnd_some h with ⟨hc, h⟩ | ⟨hc, h⟩
            · refine RU.tt hc ?_
              refine RU.blk (C' := (84, [some (.ref 19), some (.int p0), some (.int (gA s1 21 (Int32.toNatClampNeg p0))), some (.int (gA s9 22 (Int32.toNatClampNeg p0)))], [.int (((2) * (gA s9 22 (Int32.toNatClampNeg p0))) + (100))], s9)) 5 rfl ?_
              obtain ⟨rfl, rfl⟩ := ret_inj h
              exact RU.ret rfl rfl rfl
            · refine RU.ff hc ?_
              refine RU.blk (C' := (84, [some (.ref 19), some (.int p0), some (.int (gA s1 21 (Int32.toNatClampNeg p0))), some (.int (gA s9 22 (Int32.toNatClampNeg p0)))], [.int ((gA s9 22 (Int32.toNatClampNeg p0)) + (100))], s9)) 4 rfl ?_
              obtain ⟨rfl, rfl⟩ := ret_inj h
              exact RU.ret rfl rfl rfl
          · refine RU.ff hc ?_
            refine RU.blk (C' := (84, [some (.ref 19), some (.int p0), some (.int (gA s1 21 (Int32.toNatClampNeg p0))), some (.int (gA s9 22 (Int32.toNatClampNeg p0)))], [.int (gA s9 22 (Int32.toNatClampNeg p0))], s9)) 2 rfl ?_
            obtain ⟨rfl, rfl⟩ := ret_inj h
            exact RU.ret rfl rfl rfl
      · refine RU.ff hc ?_
        refine RU.blk (C' := (33, [some (.ref 19), some (.int p0), some (.int (gA s1 21 (Int32.toNatClampNeg p0))), none], [.int (2), .ref 19], s7)) 2 rfl ?_
        obtain ⟨⟨v10, s10⟩, hk, h⟩ := Option.bind_eq_some_iff.mp h
        dsimp only at h
        refine RU.call (as := [.ref 19, .int (2)]) (rest := []) (u := none) (C' := (36, [some (.ref 19), some (.int p0), some (.int (gA s1 21 (Int32.toNatClampNeg p0))), none], [], s10)) rfl rfl (m_X5_traced (2) s7 hk) rfl rfl ?_
        refine RU.blk (C' := (38, [some (.ref 19), some (.int p0), some (.int (gA s1 21 (Int32.toNatClampNeg p0))), none], [.int (1), .ref 19], s10)) 2 rfl ?_
        obtain ⟨⟨v11, s11⟩, hk, h⟩ := Option.bind_eq_some_iff.mp h
        dsimp only at h
        refine RU.call (as := [.ref 19, .int (1)]) (rest := []) (u := none) (C' := (41, [some (.ref 19), some (.int p0), some (.int (gA s1 21 (Int32.toNatClampNeg p0))), none], [], s11)) rfl rfl (m_X5_traced (1) s10 hk) rfl rfl ?_
        refine RU.blk (C' := (bif cNe (gA s1 21 (Int32.toNatClampNeg p0)) (2) then 51 else 46, [some (.ref 19), some (.int p0), some (.int (gA s1 21 (Int32.toNatClampNeg p0))), none], [], s11)) 3 rfl ?_
        rcases cnd_some h with ⟨hc, h⟩ | ⟨hc, h⟩
        · refine RU.tt hc ?_
          refine RU.blk (C' := (56, [some (.ref 19), some (.int p0), some (.int (gA s1 21 (Int32.toNatClampNeg p0))), none], [.int p0, .ref 22], s11)) 3 rfl ?_
          obtain ⟨hv, h⟩ := cnd_n h
          refine RU.iald (N := 4) rfl rfl hv ?_
          refine RU.blk (C' := (bif cNe (gA s1 21 (Int32.toNatClampNeg p0)) 0 then 66 else 62, [some (.ref 19), some (.int p0), some (.int (gA s1 21 (Int32.toNatClampNeg p0))), some (.int (gA s11 22 (Int32.toNatClampNeg p0)))], [], s11)) 3 rfl ?_
          rcases cnd_some h with ⟨hc, h⟩ | ⟨hc, h⟩
          · refine RU.tt hc ?_
            refine RU.blk (C' := (bif cNe (gA s1 21 (Int32.toNatClampNeg p0)) (1) then 78 else 71, [some (.ref 19), some (.int p0), some (.int (gA s1 21 (Int32.toNatClampNeg p0))), some (.int (gA s11 22 (Int32.toNatClampNeg p0)))], [], s11)) 3 rfl ?_
            rcases cnd_some h with ⟨hc, h⟩ | ⟨hc, h⟩
            · refine RU.tt hc ?_
              refine RU.blk (C' := (84, [some (.ref 19), some (.int p0), some (.int (gA s1 21 (Int32.toNatClampNeg p0))), some (.int (gA s11 22 (Int32.toNatClampNeg p0)))], [.int (((2) * (gA s11 22 (Int32.toNatClampNeg p0))) + (100))], s11)) 5 rfl ?_
              obtain ⟨rfl, rfl⟩ := ret_inj h
              exact RU.ret rfl rfl rfl
            · refine RU.ff hc ?_
              refine RU.blk (C' := (84, [some (.ref 19), some (.int p0), some (.int (gA s1 21 (Int32.toNatClampNeg p0))), some (.int (gA s11 22 (Int32.toNatClampNeg p0)))], [.int ((gA s11 22 (Int32.toNatClampNeg p0)) + (100))], s11)) 4 rfl ?_
              obtain ⟨rfl, rfl⟩ := ret_inj h
              exact RU.ret rfl rfl rfl
          · refine RU.ff hc ?_
            refine RU.blk (C' := (84, [some (.ref 19), some (.int p0), some (.int (gA s1 21 (Int32.toNatClampNeg p0))), some (.int (gA s11 22 (Int32.toNatClampNeg p0)))], [.int (gA s11 22 (Int32.toNatClampNeg p0))], s11)) 2 rfl ?_
            obtain ⟨rfl, rfl⟩ := ret_inj h
            exact RU.ret rfl rfl rfl
        · refine RU.ff hc ?_
          refine RU.blk (C' := (48, [some (.ref 19), some (.int p0), some (.int (gA s1 21 (Int32.toNatClampNeg p0))), none], [.int (1), .ref 19], s11)) 2 rfl ?_
          obtain ⟨⟨v12, s12⟩, hk, h⟩ := Option.bind_eq_some_iff.mp h
          dsimp only at h
          refine RU.call (as := [.ref 19, .int (1)]) (rest := []) (u := none) (C' := (51, [some (.ref 19), some (.int p0), some (.int (gA s1 21 (Int32.toNatClampNeg p0))), none], [], s12)) rfl rfl (m_X5_traced (1) s11 hk) rfl rfl ?_
          refine RU.blk (C' := (56, [some (.ref 19), some (.int p0), some (.int (gA s1 21 (Int32.toNatClampNeg p0))), none], [.int p0, .ref 22], s12)) 3 rfl ?_
          obtain ⟨hv, h⟩ := cnd_n h
          refine RU.iald (N := 4) rfl rfl hv ?_
          refine RU.blk (C' := (bif cNe (gA s1 21 (Int32.toNatClampNeg p0)) 0 then 66 else 62, [some (.ref 19), some (.int p0), some (.int (gA s1 21 (Int32.toNatClampNeg p0))), some (.int (gA s12 22 (Int32.toNatClampNeg p0)))], [], s12)) 3 rfl ?_
          rcases cnd_some h with ⟨hc, h⟩ | ⟨hc, h⟩
          · refine RU.tt hc ?_
            refine RU.blk (C' := (bif cNe (gA s1 21 (Int32.toNatClampNeg p0)) (1) then 78 else 71, [some (.ref 19), some (.int p0), some (.int (gA s1 21 (Int32.toNatClampNeg p0))), some (.int (gA s12 22 (Int32.toNatClampNeg p0)))], [], s12)) 3 rfl ?_
            rcases cnd_some h with ⟨hc, h⟩ | ⟨hc, h⟩
            · refine RU.tt hc ?_
              refine RU.blk (C' := (84, [some (.ref 19), some (.int p0), some (.int (gA s1 21 (Int32.toNatClampNeg p0))), some (.int (gA s12 22 (Int32.toNatClampNeg p0)))], [.int (((2) * (gA s12 22 (Int32.toNatClampNeg p0))) + (100))], s12)) 5 rfl ?_
              obtain ⟨rfl, rfl⟩ := ret_inj h
              exact RU.ret rfl rfl rfl
            · refine RU.ff hc ?_
              refine RU.blk (C' := (84, [some (.ref 19), some (.int p0), some (.int (gA s1 21 (Int32.toNatClampNeg p0))), some (.int (gA s12 22 (Int32.toNatClampNeg p0)))], [.int ((gA s12 22 (Int32.toNatClampNeg p0)) + (100))], s12)) 4 rfl ?_
              obtain ⟨rfl, rfl⟩ := ret_inj h
              exact RU.ret rfl rfl rfl
          · refine RU.ff hc ?_
            refine RU.blk (C' := (84, [some (.ref 19), some (.int p0), some (.int (gA s1 21 (Int32.toNatClampNeg p0))), some (.int (gA s12 22 (Int32.toNatClampNeg p0)))], [.int (gA s12 22 (Int32.toNatClampNeg p0))], s12)) 2 rfl ?_
            obtain ⟨rfl, rfl⟩ := ret_inj h
            exact RU.ret rfl rfl rfl
  · refine RU.ff hc ?_
    refine RU.blk (C' := (9, [some (.ref 19), some (.int p0), none, none], [.int (-1)], s1)) 1 rfl ?_
    obtain ⟨rfl, rfl⟩ := ret_inj h
    exact RU.ret rfl rfl rfl
