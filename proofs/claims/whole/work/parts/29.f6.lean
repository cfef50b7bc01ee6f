noncomputable def F_X5_ofLooker (p0 : Int32) (p1 : Int32) (σ : PS) : Option (Int32 × PS) :=
  (F_X5_noLooker p0 σ).bind fun q1 =>
  let v1 := q1.1
  let s1 := q1.2
  bif cEq v1 0 then (
    bif decide (p1 = (0)) then (
      bif vin p0 4 then
      some ((gA s1 21 p0.toNatClampNeg), s1)
      else none
    ) else (
      bif decide (p1 = (1)) then (
        bif vin p0 4 then
        some ((gA s1 22 p0.toNatClampNeg), s1)
        else none
      ) else (
        bif decide (p1 = (2)) then (
          some (((shr (gI s1 1223) p0) &&& (1)), s1)
        ) else (
          bif decide (p1 = (3)) then (
            (F_X5_placeOf p0 s1).bind fun q2 =>
            let v2 := q2.1
            let s2 := q2.2
            some (v2, s2)
          ) else (
            bif decide (p1 = (4)) then (
              (F_X5_placeOf p0 s1).bind fun q3 =>
              let v3 := q3.1
              let s3 := q3.2
              bif vin v3 36 then
              (F_X5_tells p0 (gA s3 20 v3.toNatClampNeg) s3).bind fun q4 =>
              let v4 := q4.1
              let s4 := q4.2
              some (v4, s4)
              else none
            ) else (
              some ((-2), s1)
            )
          )
        )
      )
    )
  ) else (
    some ((-1), s1)
  )
theorem m_X5_ofLooker (p0 : Int32) (p1 : Int32) (σ : PS) {v : Int32} {σ' : PS} (h : F_X5_ofLooker p0 p1 σ = some (v, σ')) : PR 142 [.ref 19, .int p0, .int p1] σ (some (.int v)) σ' := by
  refine PR.enter (L := [some (.ref 19), some (.int p0), some (.int p1)]) uT_142 uD_142 rfl rfl ?_
  unfold F_X5_ofLooker at h
  refine RU.blk (C' := (2, [some (.ref 19), some (.int p0), some (.int p1)], [.int p0, .ref 19], σ)) 2 rfl ?_
  obtain ⟨⟨v1, s1⟩, hk, h⟩ := Option.bind_eq_some_iff.mp h
  dsimp only at h
  refine RU.call (as := [.ref 19, .int p0]) (rest := []) (u := some (.int v1)) (C' := (5, [some (.ref 19), some (.int p0), some (.int p1)], [.int v1], s1)) rfl rfl (m_X5_noLooker p0 σ hk) rfl rfl ?_
  refine RU.blk (C' := (bif cEq v1 0 then 10 else 8, [some (.ref 19), some (.int p0), some (.int p1)], [], s1)) 1 rfl ?_
  rcases cnd_some h with ⟨hc, h⟩ | ⟨hc, h⟩
  · refine RU.tt hc ?_
    refine RU.blk (C' := (bif decide (p1 = (0)) then 44 else (bif decide (p1 = (1)) then 51 else (bif decide (p1 = (2)) then 58 else (bif decide (p1 = (3)) then 67 else (bif decide (p1 = (4)) then 73 else 89)))), [some (.ref 19), some (.int p0), some (.int p1)], [], s1)) 2 rfl ?_
    rcases cnd_some h with ⟨hc, h⟩ | ⟨hc, h⟩
    · refine RU.tt hc ?_
      refine RU.blk (C' := (49, [some (.ref 19), some (.int p0), some (.int p1)], [.int p0, .ref 21], s1)) 3 rfl ?_
      obtain ⟨hv, h⟩ := cnd_n h
      refine RU.iald (N := 4) rfl rfl hv ?_
      cases h
      exact RU.ret rfl rfl rfl
    · refine RU.ff hc ?_
      rcases cnd_some h with ⟨hc, h⟩ | ⟨hc, h⟩
      · refine RU.tt hc ?_
        refine RU.blk (C' := (56, [some (.ref 19), some (.int p0), some (.int p1)], [.int p0, .ref 22], s1)) 3 rfl ?_
        obtain ⟨hv, h⟩ := cnd_n h
        refine RU.iald (N := 4) rfl rfl hv ?_
        cases h
        exact RU.ret rfl rfl rfl
      · refine RU.ff hc ?_
        rcases cnd_some h with ⟨hc, h⟩ | ⟨hc, h⟩
        · refine RU.tt hc ?_
          refine RU.blk (C' := (66, [some (.ref 19), some (.int p0), some (.int p1)], [.int ((shr (gI s1 1223) p0) &&& (1))], s1)) 6 rfl ?_
          cases h
          exact RU.ret rfl rfl rfl
        · refine RU.ff hc ?_
          rcases cnd_some h with ⟨hc, h⟩ | ⟨hc, h⟩
          · refine RU.tt hc ?_
            refine RU.blk (C' := (69, [some (.ref 19), some (.int p0), some (.int p1)], [.int p0, .ref 19], s1)) 2 rfl ?_
            obtain ⟨⟨v2, s2⟩, hk, h⟩ := Option.bind_eq_some_iff.mp h
            dsimp only at h
            refine RU.call (as := [.ref 19, .int p0]) (rest := []) (u := some (.int v2)) (C' := (72, [some (.ref 19), some (.int p0), some (.int p1)], [.int v2], s2)) rfl rfl (m_X5_placeOf p0 s1 hk) rfl rfl ?_
            cases h
            exact RU.ret rfl rfl rfl
          · refine RU.ff hc ?_
            rcases cnd_some h with ⟨hc, h⟩ | ⟨hc, h⟩
            · refine RU.tt hc ?_
              refine RU.blk (C' := (81, [some (.ref 19), some (.int p0), some (.int p1)], [.int p0, .ref 19, .ref 20, .int p0, .ref 19], s1)) 6 rfl ?_
              obtain ⟨⟨v3, s3⟩, hk, h⟩ := Option.bind_eq_some_iff.mp h
              dsimp only at h
              refine RU.call (as := [.ref 19, .int p0]) (rest := [.ref 20, .int p0, .ref 19]) (u := some (.int v3)) (C' := (84, [some (.ref 19), some (.int p0), some (.int p1)], [.int v3, .ref 20, .int p0, .ref 19], s3)) rfl rfl (m_X5_placeOf p0 s1 hk) rfl rfl ?_
              obtain ⟨hv, h⟩ := cnd_n h
              refine RU.iald (N := 36) rfl rfl hv ?_
              obtain ⟨⟨v4, s4⟩, hk, h⟩ := Option.bind_eq_some_iff.mp h
              dsimp only at h
              refine RU.call (as := [.ref 19, .int p0, .int (gA s3 20 v3.toNatClampNeg)]) (rest := []) (u := some (.int v4)) (C' := (88, [some (.ref 19), some (.int p0), some (.int p1)], [.int v4], s4)) rfl rfl (m_X5_tells p0 (gA s3 20 v3.toNatClampNeg) s3 hk) rfl rfl ?_
              cases h
              exact RU.ret rfl rfl rfl
            · refine RU.ff hc ?_
              refine RU.blk (C' := (91, [some (.ref 19), some (.int p0), some (.int p1)], [.int (-2)], s1)) 1 rfl ?_
              cases h
              exact RU.ret rfl rfl rfl
  · refine RU.ff hc ?_
    refine RU.blk (C' := (9, [some (.ref 19), some (.int p0), some (.int p1)], [.int (-1)], s1)) 1 rfl ?_
    cases h
    exact RU.ret rfl rfl rfl
noncomputable def F_X5_height (p0 : Int32) (σ : PS) : Option (Int32 × PS) :=
  (F_X5_noPlace p0 σ).bind fun q1 =>
  let v1 := q1.1
  let s1 := q1.2
  bif cEq v1 0 then (
    bif vin p0 36 then
    some ((gA s1 20 p0.toNatClampNeg), s1)
    else none
  ) else (
    some ((-1), s1)
  )
theorem m_X5_height (p0 : Int32) (σ : PS) {v : Int32} {σ' : PS} (h : F_X5_height p0 σ = some (v, σ')) : PR 143 [.ref 19, .int p0] σ (some (.int v)) σ' := by
  refine PR.enter (L := [some (.ref 19), some (.int p0)]) uT_143 uD_143 rfl rfl ?_
  unfold F_X5_height at h
  refine RU.blk (C' := (2, [some (.ref 19), some (.int p0)], [.int p0, .ref 19], σ)) 2 rfl ?_
  obtain ⟨⟨v1, s1⟩, hk, h⟩ := Option.bind_eq_some_iff.mp h
  dsimp only at h
  refine RU.call (as := [.ref 19, .int p0]) (rest := []) (u := some (.int v1)) (C' := (5, [some (.ref 19), some (.int p0)], [.int v1], s1)) rfl rfl (m_X5_noPlace p0 σ hk) rfl rfl ?_
  refine RU.blk (C' := (bif cEq v1 0 then 12 else 8, [some (.ref 19), some (.int p0)], [], s1)) 1 rfl ?_
  rcases cnd_some h with ⟨hc, h⟩ | ⟨hc, h⟩
  · refine RU.tt hc ?_
    refine RU.blk (C' := (17, [some (.ref 19), some (.int p0)], [.int p0, .ref 20], s1)) 3 rfl ?_
    obtain ⟨hv, h⟩ := cnd_n h
    refine RU.iald (N := 36) rfl rfl hv ?_
    cases h
    exact RU.ret rfl rfl rfl
  · refine RU.ff hc ?_
    refine RU.blk (C' := (18, [some (.ref 19), some (.int p0)], [.int (-1)], s1)) 2 rfl ?_
    cases h
    exact RU.ret rfl rfl rfl
noncomputable def F_X5_heap (p0 : Int32) (p1 : Int32) (σ : PS) : Option (Int32 × PS) :=
  (F_X5_noPlace p0 σ).bind fun q1 =>
  let v1 := q1.1
  let s1 := q1.2
  bif cEq v1 0 then (
    (F_X5_in (p1).toInt64 0 (9) s1).bind fun q2 =>
    let v2 := q2.1
    let s2 := q2.2
    bif cNe v2 0 then (
      bif vin p0 36 then
      bif vin p0 36 then
      some ((gA s2 20 p0.toNatClampNeg), (sA s2 20 p0.toNatClampNeg p1))
      else none
      else none
    ) else (
      some ((-2), s2)
    )
  ) else (
    some ((-1), s1)
  )
theorem m_X5_heap (p0 : Int32) (p1 : Int32) (σ : PS) {v : Int32} {σ' : PS} (h : F_X5_heap p0 p1 σ = some (v, σ')) : PR 144 [.ref 19, .int p0, .int p1] σ (some (.int v)) σ' := by
  refine PR.enter (L := [some (.ref 19), some (.int p0), some (.int p1), none]) uT_144 uD_144 rfl rfl ?_
  unfold F_X5_heap at h
  refine RU.blk (C' := (2, [some (.ref 19), some (.int p0), some (.int p1), none], [.int p0, .ref 19], σ)) 2 rfl ?_
  obtain ⟨⟨v1, s1⟩, hk, h⟩ := Option.bind_eq_some_iff.mp h
  dsimp only at h
  refine RU.call (as := [.ref 19, .int p0]) (rest := []) (u := some (.int v1)) (C' := (5, [some (.ref 19), some (.int p0), some (.int p1), none], [.int v1], s1)) rfl rfl (m_X5_noPlace p0 σ hk) rfl rfl ?_
  refine RU.blk (C' := (bif cEq v1 0 then 10 else 8, [some (.ref 19), some (.int p0), some (.int p1), none], [], s1)) 1 rfl ?_
  rcases cnd_some h with ⟨hc, h⟩ | ⟨hc, h⟩
  · refine RU.tt hc ?_
    refine RU.blk (C' := (16, [some (.ref 19), some (.int p0), some (.int p1), none], [.long (9), .long 0, .long (p1).toInt64], s1)) 4 rfl ?_
    obtain ⟨⟨v2, s2⟩, hk, h⟩ := Option.bind_eq_some_iff.mp h
    dsimp only at h
    refine RU.call (as := [.long (p1).toInt64, .long 0, .long (9)]) (rest := []) (u := some (.int v2)) (C' := (19, [some (.ref 19), some (.int p0), some (.int p1), none], [.int v2], s2)) rfl rfl (m_X5_in (p1).toInt64 0 (9) s1 hk) rfl rfl ?_
    refine RU.blk (C' := (bif cNe v2 0 then 25 else 22, [some (.ref 19), some (.int p0), some (.int p1), none], [], s2)) 1 rfl ?_
    rcases cnd_some h with ⟨hc, h⟩ | ⟨hc, h⟩
    · refine RU.tt hc ?_
      refine RU.blk (C' := (30, [some (.ref 19), some (.int p0), some (.int p1), none], [.int p0, .ref 20], s2)) 3 rfl ?_
      obtain ⟨hv, h⟩ := cnd_n h
      refine RU.iald (N := 36) rfl rfl hv ?_
      refine RU.blk (C' := (38, [some (.ref 19), some (.int p0), some (.int p1), some (.int (gA s2 20 p0.toNatClampNeg))], [.int p1, .int p0, .ref 20], s2)) 5 rfl ?_
      obtain ⟨hv, h⟩ := cnd_n h
      refine RU.iast (N := 36) rfl rfl hv ?_
      refine RU.blk (C' := (40, [some (.ref 19), some (.int p0), some (.int p1), some (.int (gA s2 20 p0.toNatClampNeg))], [.int (gA s2 20 p0.toNatClampNeg)], (sA s2 20 p0.toNatClampNeg p1))) 1 rfl ?_
      cases h
      exact RU.ret rfl rfl rfl
    · refine RU.ff hc ?_
      refine RU.blk (C' := (24, [some (.ref 19), some (.int p0), some (.int p1), none], [.int (-2)], s2)) 1 rfl ?_
      cases h
      exact RU.ret rfl rfl rfl
  · refine RU.ff hc ?_
    refine RU.blk (C' := (9, [some (.ref 19), some (.int p0), some (.int p1), none], [.int (-1)], s1)) 1 rfl ?_
    cases h
    exact RU.ret rfl rfl rfl
noncomputable def F_X5_dim (p0 : Int32) (p1 : Int32) (σ : PS) : Option (Int32 × PS) :=
  (F_X5_noLooker p0 σ).bind fun q1 =>
  let v1 := q1.1
  let s1 := q1.2
  bif cEq v1 0 then (
    (F_X5_in (p1).toInt64 0 (9) s1).bind fun q2 =>
    let v2 := q2.1
    let s2 := q2.2
    bif cNe v2 0 then (
      bif vin p0 4 then
      bif vin p0 4 then
      some ((gA s2 22 p0.toNatClampNeg), (sA s2 22 p0.toNatClampNeg p1))
      else none
      else none
    ) else (
      some ((-2), s2)
    )
  ) else (
    some ((-1), s1)
  )
theorem m_X5_dim (p0 : Int32) (p1 : Int32) (σ : PS) {v : Int32} {σ' : PS} (h : F_X5_dim p0 p1 σ = some (v, σ')) : PR 145 [.ref 19, .int p0, .int p1] σ (some (.int v)) σ' := by
  refine PR.enter (L := [some (.ref 19), some (.int p0), some (.int p1), none]) uT_145 uD_145 rfl rfl ?_
  unfold F_X5_dim at h
  refine RU.blk (C' := (2, [some (.ref 19), some (.int p0), some (.int p1), none], [.int p0, .ref 19], σ)) 2 rfl ?_
  obtain ⟨⟨v1, s1⟩, hk, h⟩ := Option.bind_eq_some_iff.mp h
  dsimp only at h
  refine RU.call (as := [.ref 19, .int p0]) (rest := []) (u := some (.int v1)) (C' := (5, [some (.ref 19), some (.int p0), some (.int p1), none], [.int v1], s1)) rfl rfl (m_X5_noLooker p0 σ hk) rfl rfl ?_
  refine RU.blk (C' := (bif cEq v1 0 then 10 else 8, [some (.ref 19), some (.int p0), some (.int p1), none], [], s1)) 1 rfl ?_
  rcases cnd_some h with ⟨hc, h⟩ | ⟨hc, h⟩
  · refine RU.tt hc ?_
    refine RU.blk (C' := (16, [some (.ref 19), some (.int p0), some (.int p1), none], [.long (9), .long 0, .long (p1).toInt64], s1)) 4 rfl ?_
    obtain ⟨⟨v2, s2⟩, hk, h⟩ := Option.bind_eq_some_iff.mp h
    dsimp only at h
    refine RU.call (as := [.long (p1).toInt64, .long 0, .long (9)]) (rest := []) (u := some (.int v2)) (C' := (19, [some (.ref 19), some (.int p0), some (.int p1), none], [.int v2], s2)) rfl rfl (m_X5_in (p1).toInt64 0 (9) s1 hk) rfl rfl ?_
    refine RU.blk (C' := (bif cNe v2 0 then 25 else 22, [some (.ref 19), some (.int p0), some (.int p1), none], [], s2)) 1 rfl ?_
    rcases cnd_some h with ⟨hc, h⟩ | ⟨hc, h⟩
    · refine RU.tt hc ?_
      refine RU.blk (C' := (30, [some (.ref 19), some (.int p0), some (.int p1), none], [.int p0, .ref 22], s2)) 3 rfl ?_
      obtain ⟨hv, h⟩ := cnd_n h
      refine RU.iald (N := 4) rfl rfl hv ?_
      refine RU.blk (C' := (38, [some (.ref 19), some (.int p0), some (.int p1), some (.int (gA s2 22 p0.toNatClampNeg))], [.int p1, .int p0, .ref 22], s2)) 5 rfl ?_
      obtain ⟨hv, h⟩ := cnd_n h
      refine RU.iast (N := 4) rfl rfl hv ?_
      refine RU.blk (C' := (40, [some (.ref 19), some (.int p0), some (.int p1), some (.int (gA s2 22 p0.toNatClampNeg))], [.int (gA s2 22 p0.toNatClampNeg)], (sA s2 22 p0.toNatClampNeg p1))) 1 rfl ?_
      cases h
      exact RU.ret rfl rfl rfl
    · refine RU.ff hc ?_
      refine RU.blk (C' := (24, [some (.ref 19), some (.int p0), some (.int p1), none], [.int (-2)], s2)) 1 rfl ?_
      cases h
      exact RU.ret rfl rfl rfl
  · refine RU.ff hc ?_
    refine RU.blk (C' := (9, [some (.ref 19), some (.int p0), some (.int p1), none], [.int (-1)], s1)) 1 rfl ?_
    cases h
    exact RU.ret rfl rfl rfl
noncomputable def F_X5_scrape (p0 : Int32) (σ : PS) : Option (Int32 × PS) :=
  (F_X5_noLooker p0 σ).bind fun q1 =>
  let v1 := q1.1
  let s1 := q1.2
  bif cEq v1 0 then (
    (F_X5_isIn (gI s1 1223) p0 s1).bind fun q2 =>
    let v2 := q2.1
    let s2 := q2.2
    bif cEq v2 0 then (
      (F_X5_bits (gI (sI s2 1223 ((gI s2 1223) ||| (shl (1) p0))) 1223).toInt64 (sI s2 1223 ((gI s2 1223) ||| (shl (1) p0)))).bind fun q3 =>
      let v3 := q3.1
      let s3 := q3.2
      some (((gI (sI s2 1223 ((gI s2 1223) ||| (shl (1) p0))) 1219) - v3), s3)
    ) else (
      some ((-3), s2)
    )
  ) else (
    some ((-1), s1)
  )
theorem m_X5_scrape (p0 : Int32) (σ : PS) {v : Int32} {σ' : PS} (h : F_X5_scrape p0 σ = some (v, σ')) : PR 146 [.ref 19, .int p0] σ (some (.int v)) σ' := by
  refine PR.enter (L := [some (.ref 19), some (.int p0)]) uT_146 uD_146 rfl rfl ?_
  unfold F_X5_scrape at h
  refine RU.blk (C' := (2, [some (.ref 19), some (.int p0)], [.int p0, .ref 19], σ)) 2 rfl ?_
  obtain ⟨⟨v1, s1⟩, hk, h⟩ := Option.bind_eq_some_iff.mp h
  dsimp only at h
  refine RU.call (as := [.ref 19, .int p0]) (rest := []) (u := some (.int v1)) (C' := (5, [some (.ref 19), some (.int p0)], [.int v1], s1)) rfl rfl (m_X5_noLooker p0 σ hk) rfl rfl ?_
  refine RU.blk (C' := (bif cEq v1 0 then 10 else 8, [some (.ref 19), some (.int p0)], [], s1)) 1 rfl ?_
  rcases cnd_some h with ⟨hc, h⟩ | ⟨hc, h⟩
  · refine RU.tt hc ?_
    refine RU.blk (C' := (15, [some (.ref 19), some (.int p0)], [.int p0, .int (gI s1 1223)], s1)) 3 rfl ?_
    obtain ⟨⟨v2, s2⟩, hk, h⟩ := Option.bind_eq_some_iff.mp h
    dsimp only at h
    refine RU.call (as := [.int (gI s1 1223), .int p0]) (rest := []) (u := some (.int v2)) (C' := (18, [some (.ref 19), some (.int p0)], [.int v2], s2)) rfl rfl (m_X5_isIn (gI s1 1223) p0 s1 hk) rfl rfl ?_
    refine RU.blk (C' := (bif cEq v2 0 then 24 else 21, [some (.ref 19), some (.int p0)], [], s2)) 1 rfl ?_
    rcases cnd_some h with ⟨hc, h⟩ | ⟨hc, h⟩
    · refine RU.tt hc ?_
      refine RU.blk (C' := (45, [some (.ref 19), some (.int p0)], [.long (gI (sI s2 1223 ((gI s2 1223) ||| (shl (1) p0))) 1223).toInt64, .int (gI (sI s2 1223 ((gI s2 1223) ||| (shl (1) p0))) 1219)], (sI s2 1223 ((gI s2 1223) ||| (shl (1) p0))))) 13 rfl ?_
      obtain ⟨⟨v3, s3⟩, hk, h⟩ := Option.bind_eq_some_iff.mp h
      dsimp only at h
      refine RU.call (as := [.long (gI (sI s2 1223 ((gI s2 1223) ||| (shl (1) p0))) 1223).toInt64]) (rest := [.int (gI (sI s2 1223 ((gI s2 1223) ||| (shl (1) p0))) 1219)]) (u := some (.int v3)) (C' := (48, [some (.ref 19), some (.int p0)], [.int v3, .int (gI (sI s2 1223 ((gI s2 1223) ||| (shl (1) p0))) 1219)], s3)) rfl rfl (m_X5_bits (gI (sI s2 1223 ((gI s2 1223) ||| (shl (1) p0))) 1223).toInt64 (sI s2 1223 ((gI s2 1223) ||| (shl (1) p0))) hk) rfl rfl ?_
      refine RU.blk (C' := (49, [some (.ref 19), some (.int p0)], [.int ((gI (sI s2 1223 ((gI s2 1223) ||| (shl (1) p0))) 1219) - v3)], s3)) 1 rfl ?_
      cases h
      exact RU.ret rfl rfl rfl
    · refine RU.ff hc ?_
      refine RU.blk (C' := (23, [some (.ref 19), some (.int p0)], [.int (-3)], s2)) 1 rfl ?_
      cases h
      exact RU.ret rfl rfl rfl
  · refine RU.ff hc ?_
    refine RU.blk (C' := (9, [some (.ref 19), some (.int p0)], [.int (-1)], s1)) 1 rfl ?_
    cases h
    exact RU.ret rfl rfl rfl
noncomputable def F_X5_grow (p0 : Int32) (σ : PS) : Option (Int32 × PS) :=
  (F_X5_noLooker p0 σ).bind fun q1 =>
  let v1 := q1.1
  let s1 := q1.2
  bif cEq v1 0 then (
    (F_X5_isIn (gI s1 1223) p0 s1).bind fun q2 =>
    let v2 := q2.1
    let s2 := q2.2
    bif cNe v2 0 then (
      (F_X5_over (sI s2 1223 ((gI s2 1223) &&& ((shl (1) p0) ^^^ (-1))))).bind fun q3 =>
      let v3 := q3.1
      let s3 := q3.2
      (F_X5_bits (gI (sL s3 1224 ((gL (sI s2 1223 ((gI s2 1223) &&& ((shl (1) p0) ^^^ (-1)))) 1224) ||| v3)) 1223).toInt64 (sL s3 1224 ((gL (sI s2 1223 ((gI s2 1223) &&& ((shl (1) p0) ^^^ (-1)))) 1224) ||| v3))).bind fun q4 =>
      let v4 := q4.1
      let s4 := q4.2
      some (((gI (sL s3 1224 ((gL (sI s2 1223 ((gI s2 1223) &&& ((shl (1) p0) ^^^ (-1)))) 1224) ||| v3)) 1219) - v4), s4)
    ) else (
      some ((-3), s2)
    )
  ) else (
    some ((-1), s1)
  )
theorem m_X5_grow (p0 : Int32) (σ : PS) {v : Int32} {σ' : PS} (h : F_X5_grow p0 σ = some (v, σ')) : PR 147 [.ref 19, .int p0] σ (some (.int v)) σ' := by
  refine PR.enter (L := [some (.ref 19), some (.int p0)]) uT_147 uD_147 rfl rfl ?_
  unfold F_X5_grow at h
  refine RU.blk (C' := (2, [some (.ref 19), some (.int p0)], [.int p0, .ref 19], σ)) 2 rfl ?_
  obtain ⟨⟨v1, s1⟩, hk, h⟩ := Option.bind_eq_some_iff.mp h
  dsimp only at h
  refine RU.call (as := [.ref 19, .int p0]) (rest := []) (u := some (.int v1)) (C' := (5, [some (.ref 19), some (.int p0)], [.int v1], s1)) rfl rfl (m_X5_noLooker p0 σ hk) rfl rfl ?_
  refine RU.blk (C' := (bif cEq v1 0 then 10 else 8, [some (.ref 19), some (.int p0)], [], s1)) 1 rfl ?_
  rcases cnd_some h with ⟨hc, h⟩ | ⟨hc, h⟩
  · refine RU.tt hc ?_
    refine RU.blk (C' := (15, [some (.ref 19), some (.int p0)], [.int p0, .int (gI s1 1223)], s1)) 3 rfl ?_
    obtain ⟨⟨v2, s2⟩, hk, h⟩ := Option.bind_eq_some_iff.mp h
    dsimp only at h
    refine RU.call (as := [.int (gI s1 1223), .int p0]) (rest := []) (u := some (.int v2)) (C' := (18, [some (.ref 19), some (.int p0)], [.int v2], s2)) rfl rfl (m_X5_isIn (gI s1 1223) p0 s1 hk) rfl rfl ?_
    refine RU.blk (C' := (bif cNe v2 0 then 24 else 21, [some (.ref 19), some (.int p0)], [], s2)) 1 rfl ?_
    rcases cnd_some h with ⟨hc, h⟩ | ⟨hc, h⟩
    · refine RU.tt hc ?_
      refine RU.blk (C' := (44, [some (.ref 19), some (.int p0)], [.ref 19, .long (gL (sI s2 1223 ((gI s2 1223) &&& ((shl (1) p0) ^^^ (-1)))) 1224), .ref 19], (sI s2 1223 ((gI s2 1223) &&& ((shl (1) p0) ^^^ (-1)))))) 14 rfl ?_
      obtain ⟨⟨v3, s3⟩, hk, h⟩ := Option.bind_eq_some_iff.mp h
      dsimp only at h
      refine RU.call (as := [.ref 19]) (rest := [.long (gL (sI s2 1223 ((gI s2 1223) &&& ((shl (1) p0) ^^^ (-1)))) 1224), .ref 19]) (u := some (.long v3)) (C' := (47, [some (.ref 19), some (.int p0)], [.long v3, .long (gL (sI s2 1223 ((gI s2 1223) &&& ((shl (1) p0) ^^^ (-1)))) 1224), .ref 19], s3)) rfl rfl (m_X5_over (sI s2 1223 ((gI s2 1223) &&& ((shl (1) p0) ^^^ (-1)))) hk) rfl rfl ?_
      refine RU.blk (C' := (60, [some (.ref 19), some (.int p0)], [.long (gI (sL s3 1224 ((gL (sI s2 1223 ((gI s2 1223) &&& ((shl (1) p0) ^^^ (-1)))) 1224) ||| v3)) 1223).toInt64, .int (gI (sL s3 1224 ((gL (sI s2 1223 ((gI s2 1223) &&& ((shl (1) p0) ^^^ (-1)))) 1224) ||| v3)) 1219)], (sL s3 1224 ((gL (sI s2 1223 ((gI s2 1223) &&& ((shl (1) p0) ^^^ (-1)))) 1224) ||| v3)))) 7 rfl ?_
      obtain ⟨⟨v4, s4⟩, hk, h⟩ := Option.bind_eq_some_iff.mp h
      dsimp only at h
      refine RU.call (as := [.long (gI (sL s3 1224 ((gL (sI s2 1223 ((gI s2 1223) &&& ((shl (1) p0) ^^^ (-1)))) 1224) ||| v3)) 1223).toInt64]) (rest := [.int (gI (sL s3 1224 ((gL (sI s2 1223 ((gI s2 1223) &&& ((shl (1) p0) ^^^ (-1)))) 1224) ||| v3)) 1219)]) (u := some (.int v4)) (C' := (63, [some (.ref 19), some (.int p0)], [.int v4, .int (gI (sL s3 1224 ((gL (sI s2 1223 ((gI s2 1223) &&& ((shl (1) p0) ^^^ (-1)))) 1224) ||| v3)) 1219)], s4)) rfl rfl (m_X5_bits (gI (sL s3 1224 ((gL (sI s2 1223 ((gI s2 1223) &&& ((shl (1) p0) ^^^ (-1)))) 1224) ||| v3)) 1223).toInt64 (sL s3 1224 ((gL (sI s2 1223 ((gI s2 1223) &&& ((shl (1) p0) ^^^ (-1)))) 1224) ||| v3)) hk) rfl rfl ?_
      refine RU.blk (C' := (64, [some (.ref 19), some (.int p0)], [.int ((gI (sL s3 1224 ((gL (sI s2 1223 ((gI s2 1223) &&& ((shl (1) p0) ^^^ (-1)))) 1224) ||| v3)) 1219) - v4)], s4)) 1 rfl ?_
      cases h
      exact RU.ret rfl rfl rfl
    · refine RU.ff hc ?_
      refine RU.blk (C' := (23, [some (.ref 19), some (.int p0)], [.int (-3)], s2)) 1 rfl ?_
      cases h
      exact RU.ret rfl rfl rfl
  · refine RU.ff hc ?_
    refine RU.blk (C' := (9, [some (.ref 19), some (.int p0)], [.int (-1)], s1)) 1 rfl ?_
    cases h
    exact RU.ret rfl rfl rfl
noncomputable def F_X5_seen  (σ : PS) : Option (Int64 × PS) :=
  bif cNe (gI σ 1219) 0 then (
    some ((gL σ 1224), σ)
  ) else (
    (F_X5_lost σ).bind fun q1 =>
    let v1 := q1.1
    let s1 := q1.2
    some (v1, s1)
  )
theorem m_X5_seen  (σ : PS) {v : Int64} {σ' : PS} (h : F_X5_seen σ = some (v, σ')) : PR 148 [.ref 19] σ (some (.long v)) σ' := by
  refine PR.enter (L := [some (.ref 19)]) uT_148 uD_148 rfl rfl ?_
  unfold F_X5_seen at h
  refine RU.blk (C' := (bif cNe (gI σ 1219) 0 then 13 else 7, [some (.ref 19)], [], σ)) 3 rfl ?_
  rcases cnd_some h with ⟨hc, h⟩ | ⟨hc, h⟩
  · refine RU.tt hc ?_
    refine RU.blk (C' := (17, [some (.ref 19)], [.long (gL σ 1224)], σ)) 2 rfl ?_
    cases h
    exact RU.ret rfl rfl rfl
  · refine RU.ff hc ?_
    obtain ⟨⟨v1, s1⟩, hk, h⟩ := Option.bind_eq_some_iff.mp h
    dsimp only at h
    refine RU.call (as := []) (rest := []) (u := some (.long v1)) (C' := (10, [some (.ref 19)], [.long v1], s1)) rfl rfl (m_X5_lost σ hk) rfl rfl ?_
    refine RU.blk (C' := (17, [some (.ref 19)], [.long v1], s1)) 1 rfl ?_
    cases h
    exact RU.ret rfl rfl rfl
noncomputable def F_X5_isPlace (p0 : Int32) (p1 : Int32) (σ : PS) : Option (Int32 × PS) :=
  (F_X5_in (p0).toInt64 0 ((gI σ 1217) - (gI σ 1219)).toInt64 σ).bind fun q1 =>
  let v1 := q1.1
  let s1 := q1.2
  bif cEq v1 0 then (
    some ((0), s1)
  ) else (
    (F_X5_in (p1).toInt64 0 ((gI s1 1218).toInt64 - 1) s1).bind fun q2 =>
    let v2 := q2.1
    let s2 := q2.2
    bif cEq v2 0 then (
      some ((0), s2)
    ) else (
      some ((1), s2)
    )
  )
theorem m_X5_isPlace (p0 : Int32) (p1 : Int32) (σ : PS) {v : Int32} {σ' : PS} (h : F_X5_isPlace p0 p1 σ = some (v, σ')) : PR 149 [.ref 19, .int p0, .int p1] σ (some (.int v)) σ' := by
  refine PR.enter (L := [some (.ref 19), some (.int p0), some (.int p1)]) uT_149 uD_149 rfl rfl ?_
  unfold F_X5_isPlace at h
  refine RU.blk (C' := (13, [some (.ref 19), some (.int p0), some (.int p1)], [.long ((gI σ 1217) - (gI σ 1219)).toInt64, .long 0, .long (p0).toInt64], σ)) 9 rfl ?_
  obtain ⟨⟨v1, s1⟩, hk, h⟩ := Option.bind_eq_some_iff.mp h
  dsimp only at h
  refine RU.call (as := [.long (p0).toInt64, .long 0, .long ((gI σ 1217) - (gI σ 1219)).toInt64]) (rest := []) (u := some (.int v1)) (C' := (16, [some (.ref 19), some (.int p0), some (.int p1)], [.int v1], s1)) rfl rfl (m_X5_in (p0).toInt64 0 ((gI σ 1217) - (gI σ 1219)).toInt64 σ hk) rfl rfl ?_
  refine RU.blk (C' := (bif cEq v1 0 then 39 else 19, [some (.ref 19), some (.int p0), some (.int p1)], [], s1)) 1 rfl ?_
  rcases cnd_some h with ⟨hc, h⟩ | ⟨hc, h⟩
  · refine RU.tt hc ?_
    refine RU.blk (C' := (40, [some (.ref 19), some (.int p0), some (.int p1)], [.int (0)], s1)) 1 rfl ?_
    cases h
    exact RU.ret rfl rfl rfl
  · refine RU.ff hc ?_
    refine RU.blk (C' := (29, [some (.ref 19), some (.int p0), some (.int p1)], [.long ((gI s1 1218).toInt64 - 1), .long 0, .long (p1).toInt64], s1)) 8 rfl ?_
    obtain ⟨⟨v2, s2⟩, hk, h⟩ := Option.bind_eq_some_iff.mp h
    dsimp only at h
    refine RU.call (as := [.long (p1).toInt64, .long 0, .long ((gI s1 1218).toInt64 - 1)]) (rest := []) (u := some (.int v2)) (C' := (32, [some (.ref 19), some (.int p0), some (.int p1)], [.int v2], s2)) rfl rfl (m_X5_in (p1).toInt64 0 ((gI s1 1218).toInt64 - 1) s1 hk) rfl rfl ?_
    refine RU.blk (C' := (bif cEq v2 0 then 39 else 35, [some (.ref 19), some (.int p0), some (.int p1)], [], s2)) 1 rfl ?_
    rcases cnd_some h with ⟨hc, h⟩ | ⟨hc, h⟩
    · refine RU.tt hc ?_
      refine RU.blk (C' := (40, [some (.ref 19), some (.int p0), some (.int p1)], [.int (0)], s2)) 1 rfl ?_
      cases h
      exact RU.ret rfl rfl rfl
    · refine RU.ff hc ?_
      refine RU.blk (C' := (40, [some (.ref 19), some (.int p0), some (.int p1)], [.int (1)], s2)) 2 rfl ?_
      cases h
      exact RU.ret rfl rfl rfl
noncomputable def F_X5_columnBy (p0 : Int32) (σ : PS) : Option (Int32 × PS) :=
  bif cNe p0 (1) then (
    bif cNe p0 (3) then (
      some ((0), σ)
    ) else (
      some ((-1), σ)
    )
  ) else (
    some ((1), σ)
  )
theorem m_X5_columnBy (p0 : Int32) (σ : PS) {v : Int32} {σ' : PS} (h : F_X5_columnBy p0 σ = some (v, σ')) : PR 150 [.int p0] σ (some (.int v)) σ' := by
  refine PR.enter (L := [some (.int p0)]) uT_150 uD_150 rfl rfl ?_
  unfold F_X5_columnBy at h
  refine RU.blk (C' := (bif cNe p0 (1) then 9 else 5, [some (.int p0)], [], σ)) 3 rfl ?_
  rcases cnd_some h with ⟨hc, h⟩ | ⟨hc, h⟩
  · refine RU.tt hc ?_
    refine RU.blk (C' := (bif cNe p0 (3) then 18 else 14, [some (.int p0)], [], σ)) 3 rfl ?_
    rcases cnd_some h with ⟨hc, h⟩ | ⟨hc, h⟩
    · refine RU.tt hc ?_
      refine RU.blk (C' := (19, [some (.int p0)], [.int (0)], σ)) 1 rfl ?_
      cases h
      exact RU.ret rfl rfl rfl
    · refine RU.ff hc ?_
      refine RU.blk (C' := (19, [some (.int p0)], [.int (-1)], σ)) 2 rfl ?_
      cases h
      exact RU.ret rfl rfl rfl
  · refine RU.ff hc ?_
    refine RU.blk (C' := (19, [some (.int p0)], [.int (1)], σ)) 2 rfl ?_
    cases h
    exact RU.ret rfl rfl rfl
noncomputable def F_X5_rowBy (p0 : Int32) (σ : PS) : Option (Int32 × PS) :=
  bif cNe p0 0 then (
    bif cNe p0 (2) then (
      some ((0), σ)
    ) else (
      some ((1), σ)
    )
  ) else (
    some ((-1), σ)
  )
theorem m_X5_rowBy (p0 : Int32) (σ : PS) {v : Int32} {σ' : PS} (h : F_X5_rowBy p0 σ = some (v, σ')) : PR 151 [.int p0] σ (some (.int v)) σ' := by
  refine PR.enter (L := [some (.int p0)]) uT_151 uD_151 rfl rfl ?_
  unfold F_X5_rowBy at h
  refine RU.blk (C' := (bif cNe p0 0 then 8 else 4, [some (.int p0)], [], σ)) 2 rfl ?_
  rcases cnd_some h with ⟨hc, h⟩ | ⟨hc, h⟩
  · refine RU.tt hc ?_
    refine RU.blk (C' := (bif cNe p0 (2) then 17 else 13, [some (.int p0)], [], σ)) 3 rfl ?_
    rcases cnd_some h with ⟨hc, h⟩ | ⟨hc, h⟩
    · refine RU.tt hc ?_
      refine RU.blk (C' := (18, [some (.int p0)], [.int (0)], σ)) 1 rfl ?_
      cases h
      exact RU.ret rfl rfl rfl
    · refine RU.ff hc ?_
      refine RU.blk (C' := (18, [some (.int p0)], [.int (1)], σ)) 2 rfl ?_
      cases h
      exact RU.ret rfl rfl rfl
  · refine RU.ff hc ?_
    refine RU.blk (C' := (18, [some (.int p0)], [.int (-1)], σ)) 2 rfl ?_
    cases h
    exact RU.ret rfl rfl rfl
noncomputable def F_X5_steps (p0 : Int32) (σ : PS) : Option (Int32 × PS) :=
  (F_X5_columnBy p0 σ).bind fun q1 =>
  let v1 := q1.1
  let s1 := q1.2
  (F_X5_rowBy p0 s1).bind fun q2 =>
  let v2 := q2.1
  let s2 := q2.2
  (F_X5_isPlace ((gI σ 1220) + v1) ((gI s1 1221) + v2) s2).bind fun q3 =>
  let v3 := q3.1
  let s3 := q3.2
  bif cNe v3 0 then (
    (F_X5_over (sI (sI s3 1220 ((gI σ 1220) + v1)) 1221 ((gI s1 1221) + v2))).bind fun q4 =>
    let v4 := q4.1
    let s4 := q4.2
    some ((1), (sL s4 1224 ((gL (sI (sI s3 1220 ((gI σ 1220) + v1)) 1221 ((gI s1 1221) + v2)) 1224) ||| v4)))
  ) else (
    some ((0), s3)
  )
theorem m_X5_steps (p0 : Int32) (σ : PS) {v : Int32} {σ' : PS} (h : F_X5_steps p0 σ = some (v, σ')) : PR 152 [.ref 19, .int p0] σ (some (.int v)) σ' := by
  refine PR.enter (L := [some (.ref 19), some (.int p0), none, none]) uT_152 uD_152 rfl rfl ?_
  unfold F_X5_steps at h
  refine RU.blk (C' := (5, [some (.ref 19), some (.int p0), none, none], [.int p0, .int (gI σ 1220)], σ)) 3 rfl ?_
  obtain ⟨⟨v1, s1⟩, hk, h⟩ := Option.bind_eq_some_iff.mp h
  dsimp only at h
  refine RU.call (as := [.int p0]) (rest := [.int (gI σ 1220)]) (u := some (.int v1)) (C' := (8, [some (.ref 19), some (.int p0), none, none], [.int v1, .int (gI σ 1220)], s1)) rfl rfl (m_X5_columnBy p0 σ hk) rfl rfl ?_
  refine RU.blk (C' := (15, [some (.ref 19), some (.int p0), some (.int ((gI σ 1220) + v1)), none], [.int p0, .int (gI s1 1221)], s1)) 5 rfl ?_
  obtain ⟨⟨v2, s2⟩, hk, h⟩ := Option.bind_eq_some_iff.mp h
  dsimp only at h
  refine RU.call (as := [.int p0]) (rest := [.int (gI s1 1221)]) (u := some (.int v2)) (C' := (18, [some (.ref 19), some (.int p0), some (.int ((gI σ 1220) + v1)), none], [.int v2, .int (gI s1 1221)], s2)) rfl rfl (m_X5_rowBy p0 s1 hk) rfl rfl ?_
  refine RU.blk (C' := (23, [some (.ref 19), some (.int p0), some (.int ((gI σ 1220) + v1)), some (.int ((gI s1 1221) + v2))], [.int ((gI s1 1221) + v2), .int ((gI σ 1220) + v1), .ref 19], s2)) 5 rfl ?_
  obtain ⟨⟨v3, s3⟩, hk, h⟩ := Option.bind_eq_some_iff.mp h
  dsimp only at h
  refine RU.call (as := [.ref 19, .int ((gI σ 1220) + v1), .int ((gI s1 1221) + v2)]) (rest := []) (u := some (.int v3)) (C' := (26, [some (.ref 19), some (.int p0), some (.int ((gI σ 1220) + v1)), some (.int ((gI s1 1221) + v2))], [.int v3], s3)) rfl rfl (m_X5_isPlace ((gI σ 1220) + v1) ((gI s1 1221) + v2) s2 hk) rfl rfl ?_
  refine RU.blk (C' := (bif cNe v3 0 then 31 else 29, [some (.ref 19), some (.int p0), some (.int ((gI σ 1220) + v1)), some (.int ((gI s1 1221) + v2))], [], s3)) 1 rfl ?_
  rcases cnd_some h with ⟨hc, h⟩ | ⟨hc, h⟩
  · refine RU.tt hc ?_
    refine RU.blk (C' := (47, [some (.ref 19), some (.int p0), some (.int ((gI σ 1220) + v1)), some (.int ((gI s1 1221) + v2))], [.ref 19, .long (gL (sI (sI s3 1220 ((gI σ 1220) + v1)) 1221 ((gI s1 1221) + v2)) 1224), .ref 19], (sI (sI s3 1220 ((gI σ 1220) + v1)) 1221 ((gI s1 1221) + v2)))) 10 rfl ?_
    obtain ⟨⟨v4, s4⟩, hk, h⟩ := Option.bind_eq_some_iff.mp h
    dsimp only at h
    refine RU.call (as := [.ref 19]) (rest := [.long (gL (sI (sI s3 1220 ((gI σ 1220) + v1)) 1221 ((gI s1 1221) + v2)) 1224), .ref 19]) (u := some (.long v4)) (C' := (50, [some (.ref 19), some (.int p0), some (.int ((gI σ 1220) + v1)), some (.int ((gI s1 1221) + v2))], [.long v4, .long (gL (sI (sI s3 1220 ((gI σ 1220) + v1)) 1221 ((gI s1 1221) + v2)) 1224), .ref 19], s4)) rfl rfl (m_X5_over (sI (sI s3 1220 ((gI σ 1220) + v1)) 1221 ((gI s1 1221) + v2)) hk) rfl rfl ?_
    refine RU.blk (C' := (55, [some (.ref 19), some (.int p0), some (.int ((gI σ 1220) + v1)), some (.int ((gI s1 1221) + v2))], [.int (1)], (sL s4 1224 ((gL (sI (sI s3 1220 ((gI σ 1220) + v1)) 1221 ((gI s1 1221) + v2)) 1224) ||| v4)))) 3 rfl ?_
    cases h
    exact RU.ret rfl rfl rfl
  · refine RU.ff hc ?_
    refine RU.blk (C' := (30, [some (.ref 19), some (.int p0), some (.int ((gI σ 1220) + v1)), some (.int ((gI s1 1221) + v2))], [.int (0)], s3)) 1 rfl ?_
    cases h
    exact RU.ret rfl rfl rfl
noncomputable def F_X5_step (p0 : Int32) (σ : PS) : Option (Int32 × PS) :=
  (F_X5_in (p0).toInt64 0 (3) σ).bind fun q1 =>
  let v1 := q1.1
  let s1 := q1.2
  bif cNe v1 0 then (
    (F_X5_bits (gL s1 1224) s1).bind fun q2 =>
    let v2 := q2.1
    let s2 := q2.2
    bif cEq (gI s2 1219) 0 then (
      some ((-3), s2)
    ) else (
      (F_X5_steps p0 s2).bind fun q3 =>
      let v3 := q3.1
      let s3 := q3.2
      bif cNe v3 0 then (
        (F_X5_bits (gL (sI s3 1222 ((gI s3 1222) + (1))) 1224) (sI s3 1222 ((gI s3 1222) + (1)))).bind fun q4 =>
        let v4 := q4.1
        let s4 := q4.2
        some ((v4 - v2), s4)
      ) else (
        some ((-3), s3)
      )
    )
  ) else (
    some ((-2), s1)
  )
theorem m_X5_step (p0 : Int32) (σ : PS) {v : Int32} {σ' : PS} (h : F_X5_step p0 σ = some (v, σ')) : PR 153 [.ref 19, .int p0] σ (some (.int v)) σ' := by
  refine PR.enter (L := [some (.ref 19), some (.int p0), none]) uT_153 uD_153 rfl rfl ?_
  unfold F_X5_step at h
  refine RU.blk (C' := (6, [some (.ref 19), some (.int p0), none], [.long (3), .long 0, .long (p0).toInt64], σ)) 4 rfl ?_
  obtain ⟨⟨v1, s1⟩, hk, h⟩ := Option.bind_eq_some_iff.mp h
  dsimp only at h
  refine RU.call (as := [.long (p0).toInt64, .long 0, .long (3)]) (rest := []) (u := some (.int v1)) (C' := (9, [some (.ref 19), some (.int p0), none], [.int v1], s1)) rfl rfl (m_X5_in (p0).toInt64 0 (3) σ hk) rfl rfl ?_
  refine RU.blk (C' := (bif cNe v1 0 then 15 else 12, [some (.ref 19), some (.int p0), none], [], s1)) 1 rfl ?_
  rcases cnd_some h with ⟨hc, h⟩ | ⟨hc, h⟩
  · refine RU.tt hc ?_
    refine RU.blk (C' := (19, [some (.ref 19), some (.int p0), none], [.long (gL s1 1224)], s1)) 2 rfl ?_
    obtain ⟨⟨v2, s2⟩, hk, h⟩ := Option.bind_eq_some_iff.mp h
    dsimp only at h
    refine RU.call (as := [.long (gL s1 1224)]) (rest := []) (u := some (.int v2)) (C' := (22, [some (.ref 19), some (.int p0), none], [.int v2], s2)) rfl rfl (m_X5_bits (gL s1 1224) s1 hk) rfl rfl ?_
    refine RU.blk (C' := (bif cEq (gI s2 1219) 0 then 38 else 30, [some (.ref 19), some (.int p0), some (.int v2)], [], s2)) 4 rfl ?_
    rcases cnd_some h with ⟨hc, h⟩ | ⟨hc, h⟩
    · refine RU.tt hc ?_
      refine RU.blk (C' := (40, [some (.ref 19), some (.int p0), some (.int v2)], [.int (-3)], s2)) 1 rfl ?_
      cases h
      exact RU.ret rfl rfl rfl
    · refine RU.ff hc ?_
      refine RU.blk (C' := (32, [some (.ref 19), some (.int p0), some (.int v2)], [.int p0, .ref 19], s2)) 2 rfl ?_
      obtain ⟨⟨v3, s3⟩, hk, h⟩ := Option.bind_eq_some_iff.mp h
      dsimp only at h
      refine RU.call (as := [.ref 19, .int p0]) (rest := []) (u := some (.int v3)) (C' := (35, [some (.ref 19), some (.int p0), some (.int v2)], [.int v3], s3)) rfl rfl (m_X5_steps p0 s2 hk) rfl rfl ?_
      refine RU.blk (C' := (bif cNe v3 0 then 41 else 38, [some (.ref 19), some (.int p0), some (.int v2)], [], s3)) 1 rfl ?_
      rcases cnd_some h with ⟨hc, h⟩ | ⟨hc, h⟩
      · refine RU.tt hc ?_
        refine RU.blk (C' := (55, [some (.ref 19), some (.int p0), some (.int v2)], [.long (gL (sI s3 1222 ((gI s3 1222) + (1))) 1224)], (sI s3 1222 ((gI s3 1222) + (1))))) 8 rfl ?_
        obtain ⟨⟨v4, s4⟩, hk, h⟩ := Option.bind_eq_some_iff.mp h
        dsimp only at h
        refine RU.call (as := [.long (gL (sI s3 1222 ((gI s3 1222) + (1))) 1224)]) (rest := []) (u := some (.int v4)) (C' := (58, [some (.ref 19), some (.int p0), some (.int v2)], [.int v4], s4)) rfl rfl (m_X5_bits (gL (sI s3 1222 ((gI s3 1222) + (1))) 1224) (sI s3 1222 ((gI s3 1222) + (1))) hk) rfl rfl ?_
        refine RU.blk (C' := (60, [some (.ref 19), some (.int p0), some (.int v2)], [.int (v4 - v2)], s4)) 2 rfl ?_
        cases h
        exact RU.ret rfl rfl rfl
      · refine RU.ff hc ?_
        refine RU.blk (C' := (40, [some (.ref 19), some (.int p0), some (.int v2)], [.int (-3)], s3)) 1 rfl ?_
        cases h
        exact RU.ret rfl rfl rfl
  · refine RU.ff hc ?_
    refine RU.blk (C' := (14, [some (.ref 19), some (.int p0), none], [.int (-2)], s1)) 1 rfl ?_
    cases h
    exact RU.ret rfl rfl rfl
noncomputable def F_X5_keepAll  (σ : PS) : Option (Unit × PS) :=
  some ((), (sL (sI (sI σ 1237 (gI σ 1220)) 1238 (gI (sI σ 1237 (gI σ 1220)) 1221)) 1239 (gL (sI (sI σ 1237 (gI σ 1220)) 1238 (gI (sI σ 1237 (gI σ 1220)) 1221)) 1224)))
theorem m_X5_keepAll  (σ : PS) {v : Unit} {σ' : PS} (h : F_X5_keepAll σ = some (v, σ')) : PR 154 [.ref 19] σ (none) σ' := by
  refine PR.enter (L := [some (.ref 19)]) uT_154 uD_154 rfl rfl ?_
  unfold F_X5_keepAll at h
  refine RU.blk (C' := (24, [some (.ref 19)], [], (sL (sI (sI σ 1237 (gI σ 1220)) 1238 (gI (sI σ 1237 (gI σ 1220)) 1221)) 1239 (gL (sI (sI σ 1237 (gI σ 1220)) 1238 (gI (sI σ 1237 (gI σ 1220)) 1221)) 1224)))) 12 rfl ?_
  cases h
  exact RU.ret rfl rfl rfl
noncomputable def F_X5_bringBack  (σ : PS) : Option (Unit × PS) :=
  some ((), (sL (sI (sI σ 1220 (gI σ 1237)) 1221 (gI (sI σ 1220 (gI σ 1237)) 1238)) 1224 (gL (sI (sI σ 1220 (gI σ 1237)) 1221 (gI (sI σ 1220 (gI σ 1237)) 1238)) 1239)))
theorem m_X5_bringBack  (σ : PS) {v : Unit} {σ' : PS} (h : F_X5_bringBack σ = some (v, σ')) : PR 155 [.ref 19] σ (none) σ' := by
  refine PR.enter (L := [some (.ref 19)]) uT_155 uD_155 rfl rfl ?_
  unfold F_X5_bringBack at h
  refine RU.blk (C' := (24, [some (.ref 19)], [], (sL (sI (sI σ 1220 (gI σ 1237)) 1221 (gI (sI σ 1220 (gI σ 1237)) 1238)) 1224 (gL (sI (sI σ 1220 (gI σ 1237)) 1221 (gI (sI σ 1220 (gI σ 1237)) 1238)) 1239)))) 12 rfl ?_
  cases h
  exact RU.ret rfl rfl rfl
noncomputable def L_X5_voyageBy  : Nat → Nat → Int32 → Int32 → Int32 → Int32 → Int32 → Int32 → Int32 → Int32 → PS → Option (Int32 × PS)
  | 0, _, _, _, _, _, _, _, _, _, _ => none
  | n + 1, hd, x1, x2, x3, x4, x5, x6, x7, x8, σ => 
    bif Nat.beq hd 14 then (
      bif cGe x7 x2 then (
        bif cNe x3 (1) then (
          bif cLt x4 0 then (
            bif cNe x3 0 then (
              bif cNe x3 (2) then (
                bif cNe x3 (3) then (
                  (F_X5_placeOf (0) σ).bind fun q1 =>
                  let v1 := q1.1
                  let s1 := q1.2
                  some (v1, s1)
                ) else (
                  some (x6, σ)
                )
              ) else (
                some (x5, σ)
              )
            ) else (
              (F_X5_bits (gL σ 1224) σ).bind fun q2 =>
              let v2 := q2.1
              let s2 := q2.2
              (F_X5_bits (gL s2 1239) s2).bind fun q3 =>
              let v3 := q3.1
              let s3 := q3.2
              some ((v2 - v3), s3)
            )
          ) else (
            some (((-100) - x4), σ)
          )
        ) else (
          some (x4, σ)
        )
      ) else (
        bif cGe x4 0 then (
          bif cNe x3 (1) then (
            bif cLt x4 0 then (
              bif cNe x3 0 then (
                bif cNe x3 (2) then (
                  bif cNe x3 (3) then (
                    (F_X5_placeOf (0) σ).bind fun q4 =>
                    let v4 := q4.1
                    let s4 := q4.2
                    some (v4, s4)
                  ) else (
                    some (x6, σ)
                  )
                ) else (
                  some (x5, σ)
                )
              ) else (
                (F_X5_bits (gL σ 1224) σ).bind fun q5 =>
                let v5 := q5.1
                let s5 := q5.2
                (F_X5_bits (gL s5 1239) s5).bind fun q6 =>
                let v6 := q6.1
                let s6 := q6.2
                some ((v5 - v6), s6)
              )
            ) else (
              some (((-100) - x4), σ)
            )
          ) else (
            some (x4, σ)
          )
        ) else (
          bif vin (x1 + x7) 240 then
          (F_X5_steps (gA σ 32 (x1 + x7).toNatClampNeg) σ).bind fun q7 =>
          let v7 := q7.1
          let s7 := q7.2
          bif cEq v7 0 then (
            L_X5_voyageBy n  53 x1 x2 x3 x7 x5 x6 x7 (0) s7
          ) else (
            L_X5_voyageBy n  53 x1 x2 x3 (-9) x5 x6 x7 (0) s7
          )
          else none
        )
      )
    ) else
    bif Nat.beq hd 53 then (
      bif cGe x8 (gI σ 1219) then (
        L_X5_voyageBy n  14 x1 x2 x3 x4 x5 x6 (x7 + (1)) 0 σ
      ) else (
        (F_X5_isIn (gI σ 1223) x8 σ).bind fun q8 =>
        let v8 := q8.1
        let s8 := q8.2
        bif cEq v8 0 then (
          (F_X5_placeOf x8 s8).bind fun q9 =>
          let v9 := q9.1
          let s9 := q9.2
          bif vin v9 36 then
          (F_X5_tells x8 (gA s9 20 v9.toNatClampNeg) s9).bind fun q10 =>
          let v10 := q10.1
          let s10 := q10.2
          bif cGe v10 0 then (
            bif cLe v10 x6 then (
              L_X5_voyageBy n  53 x1 x2 x3 x4 (x5 + v10) x6 x7 (x8 + (1)) s10
            ) else (
              L_X5_voyageBy n  53 x1 x2 x3 x4 (x5 + v10) v10 x7 (x8 + (1)) s10
            )
          ) else (
            bif cLe v10 x6 then (
              L_X5_voyageBy n  53 x1 x2 x3 x4 (x5 + (0)) x6 x7 (x8 + (1)) s10
            ) else (
              L_X5_voyageBy n  53 x1 x2 x3 x4 (x5 + (0)) v10 x7 (x8 + (1)) s10
            )
          )
          else none
        ) else (
          bif cLe (-9) x6 then (
            L_X5_voyageBy n  53 x1 x2 x3 x4 (x5 + (0)) x6 x7 (x8 + (1)) s8
          ) else (
            L_X5_voyageBy n  53 x1 x2 x3 x4 (x5 + (0)) (-9) x7 (x8 + (1)) s8
          )
        )
      )
    ) else
    none
theorem ml_X5_voyageBy  (n : Nat) : (∀ (x1 : Int32) (x2 : Int32) (x3 : Int32) (x4 : Int32) (x5 : Int32) (x6 : Int32) (x7 : Int32) (u8 : Option Value) (u9 : Option Value) (σ : PS) (v : Int32) (σ' : PS), L_X5_voyageBy n 14 x1 x2 x3 x4 x5 x6 x7 0 σ = some (v, σ') → RU ubX5_voyageBy 3 70 (14, [some (.ref 19), some (.int x1), some (.int x2), some (.int x3), some (.int x4), some (.int x5), some (.int x6), some (.int x7), u8, u9], [], σ) (some (.int v)) σ') ∧ (∀ (x1 : Int32) (x2 : Int32) (x3 : Int32) (x4 : Int32) (x5 : Int32) (x6 : Int32) (x7 : Int32) (x8 : Int32) (u9 : Option Value) (σ : PS) (v : Int32) (σ' : PS), L_X5_voyageBy n 53 x1 x2 x3 x4 x5 x6 x7 x8 σ = some (v, σ') → RU ubX5_voyageBy 3 70 (53, [some (.ref 19), some (.int x1), some (.int x2), some (.int x3), some (.int x4), some (.int x5), some (.int x6), some (.int x7), some (.int x8), u9], [], σ) (some (.int v)) σ') := by
  induction n with
  | zero =>
    refine ⟨?_, ?_⟩
    · intro x1 x2 x3 x4 x5 x6 x7 u8 u9 σ v σ' h; exact absurd (show (none : Option (Int32 × PS)) = some (v, σ') from h) (by simp)
    · intro x1 x2 x3 x4 x5 x6 x7 x8 u9 σ v σ' h; exact absurd (show (none : Option (Int32 × PS)) = some (v, σ') from h) (by simp)
  | succ n ih =>
    refine ⟨?_, ?_⟩
    · intro x1 x2 x3 x4 x5 x6 x7 u8 u9 σ v σ' h
      rw [L_X5_voyageBy] at h
      rcases cnd_some h with ⟨hc, h⟩ | ⟨hc, h⟩
      rotate_left
      · exact absurd hc (by decide)
      refine RU.blk (C' := (bif cGe x7 x2 then 142 else 20, [some (.ref 19), some (.int x1), some (.int x2), some (.int x3), some (.int x4), some (.int x5), some (.int x6), some (.int x7), none, none], [], σ)) 3 rfl ?_
      rcases cnd_some h with ⟨hc, h⟩ | ⟨hc, h⟩
      · refine RU.tt hc ?_
        refine RU.blk (C' := (bif cNe x3 (1) then 150 else 147, [some (.ref 19), some (.int x1), some (.int x2), some (.int x3), some (.int x4), some (.int x5), some (.int x6), some (.int x7), none, none], [], σ)) 3 rfl ?_
        rcases cnd_some h with ⟨hc, h⟩ | ⟨hc, h⟩
        · refine RU.tt hc ?_
          refine RU.blk (C' := (bif cLt x4 0 then 161 else 155, [some (.ref 19), some (.int x1), some (.int x2), some (.int x3), some (.int x4), some (.int x5), some (.int x6), some (.int x7), none, none], [], σ)) 2 rfl ?_
          rcases cnd_some h with ⟨hc, h⟩ | ⟨hc, h⟩
          · refine RU.tt hc ?_
            refine RU.blk (C' := (bif cNe x3 0 then 183 else 165, [some (.ref 19), some (.int x1), some (.int x2), some (.int x3), some (.int x4), some (.int x5), some (.int x6), some (.int x7), none, none], [], σ)) 2 rfl ?_
            rcases cnd_some h with ⟨hc, h⟩ | ⟨hc, h⟩
            · refine RU.tt hc ?_
              refine RU.blk (C' := (bif cNe x3 (2) then 193 else 188, [some (.ref 19), some (.int x1), some (.int x2), some (.int x3), some (.int x4), some (.int x5), some (.int x6), some (.int x7), none, none], [], σ)) 3 rfl ?_
              rcases cnd_some h with ⟨hc, h⟩ | ⟨hc, h⟩
              · refine RU.tt hc ?_
                refine RU.blk (C' := (bif cNe x3 (3) then 203 else 198, [some (.ref 19), some (.int x1), some (.int x2), some (.int x3), some (.int x4), some (.int x5), some (.int x6), some (.int x7), none, none], [], σ)) 3 rfl ?_
                rcases cnd_some h with ⟨hc, h⟩ | ⟨hc, h⟩
                · refine RU.tt hc ?_
                  refine RU.blk (C' := (205, [some (.ref 19), some (.int x1), some (.int x2), some (.int x3), some (.int x4), some (.int x5), some (.int x6), some (.int x7), none, none], [.int (0), .ref 19], σ)) 2 rfl ?_
                  obtain ⟨⟨v1, s1⟩, hk, h⟩ := Option.bind_eq_some_iff.mp h
                  dsimp only at h
                  refine RU.call (as := [.ref 19, .int (0)]) (rest := []) (u := some (.int v1)) (C' := (208, [some (.ref 19), some (.int x1), some (.int x2), some (.int x3), some (.int x4), some (.int x5), some (.int x6), some (.int x7), none, none], [.int v1], s1)) rfl rfl (m_X5_placeOf (0) σ hk) rfl rfl ?_
                  cases h
                  exact RU.ret rfl rfl rfl
                · refine RU.ff hc ?_
                  refine RU.blk (C' := (208, [some (.ref 19), some (.int x1), some (.int x2), some (.int x3), some (.int x4), some (.int x5), some (.int x6), some (.int x7), none, none], [.int x6], σ)) 2 rfl ?_
                  cases h
                  exact RU.ret rfl rfl rfl
              · refine RU.ff hc ?_
                refine RU.blk (C' := (208, [some (.ref 19), some (.int x1), some (.int x2), some (.int x3), some (.int x4), some (.int x5), some (.int x6), some (.int x7), none, none], [.int x5], σ)) 2 rfl ?_
                cases h
                exact RU.ret rfl rfl rfl
            · refine RU.ff hc ?_
              refine RU.blk (C' := (169, [some (.ref 19), some (.int x1), some (.int x2), some (.int x3), some (.int x4), some (.int x5), some (.int x6), some (.int x7), none, none], [.long (gL σ 1224)], σ)) 2 rfl ?_
              obtain ⟨⟨v2, s2⟩, hk, h⟩ := Option.bind_eq_some_iff.mp h
              dsimp only at h
              refine RU.call (as := [.long (gL σ 1224)]) (rest := []) (u := some (.int v2)) (C' := (172, [some (.ref 19), some (.int x1), some (.int x2), some (.int x3), some (.int x4), some (.int x5), some (.int x6), some (.int x7), none, none], [.int v2], s2)) rfl rfl (m_X5_bits (gL σ 1224) σ hk) rfl rfl ?_
              refine RU.blk (C' := (176, [some (.ref 19), some (.int x1), some (.int x2), some (.int x3), some (.int x4), some (.int x5), some (.int x6), some (.int x7), none, none], [.long (gL s2 1239), .int v2], s2)) 2 rfl ?_
              obtain ⟨⟨v3, s3⟩, hk, h⟩ := Option.bind_eq_some_iff.mp h
              dsimp only at h
              refine RU.call (as := [.long (gL s2 1239)]) (rest := [.int v2]) (u := some (.int v3)) (C' := (179, [some (.ref 19), some (.int x1), some (.int x2), some (.int x3), some (.int x4), some (.int x5), some (.int x6), some (.int x7), none, none], [.int v3, .int v2], s3)) rfl rfl (m_X5_bits (gL s2 1239) s2 hk) rfl rfl ?_
              refine RU.blk (C' := (208, [some (.ref 19), some (.int x1), some (.int x2), some (.int x3), some (.int x4), some (.int x5), some (.int x6), some (.int x7), none, none], [.int (v2 - v3)], s3)) 2 rfl ?_
              cases h
              exact RU.ret rfl rfl rfl
          · refine RU.ff hc ?_
            refine RU.blk (C' := (160, [some (.ref 19), some (.int x1), some (.int x2), some (.int x3), some (.int x4), some (.int x5), some (.int x6), some (.int x7), none, none], [.int ((-100) - x4)], σ)) 3 rfl ?_
            cases h
            exact RU.ret rfl rfl rfl
        · refine RU.ff hc ?_
          refine RU.blk (C' := (149, [some (.ref 19), some (.int x1), some (.int x2), some (.int x3), some (.int x4), some (.int x5), some (.int x6), some (.int x7), none, none], [.int x4], σ)) 1 rfl ?_
          cases h
          exact RU.ret rfl rfl rfl
      · refine RU.ff hc ?_
        refine RU.blk (C' := (bif cGe x4 0 then 142 else 25, [some (.ref 19), some (.int x1), some (.int x2), some (.int x3), some (.int x4), some (.int x5), some (.int x6), some (.int x7), none, none], [], σ)) 2 rfl ?_
        rcases cnd_some h with ⟨hc, h⟩ | ⟨hc, h⟩
        · refine RU.tt hc ?_
          refine RU.blk (C' := (bif cNe x3 (1) then 150 else 147, [some (.ref 19), some (.int x1), some (.int x2), some (.int x3), some (.int x4), some (.int x5), some (.int x6), some (.int x7), none, none], [], σ)) 3 rfl ?_
          rcases cnd_some h with ⟨hc, h⟩ | ⟨hc, h⟩
          · refine RU.tt hc ?_
            refine RU.blk (C' := (bif cLt x4 0 then 161 else 155, [some (.ref 19), some (.int x1), some (.int x2), some (.int x3), some (.int x4), some (.int x5), some (.int x6), some (.int x7), none, none], [], σ)) 2 rfl ?_
            rcases cnd_some h with ⟨hc, h⟩ | ⟨hc, h⟩
            · refine RU.tt hc ?_
              refine RU.blk (C' := (bif cNe x3 0 then 183 else 165, [some (.ref 19), some (.int x1), some (.int x2), some (.int x3), some (.int x4), some (.int x5), some (.int x6), some (.int x7), none, none], [], σ)) 2 rfl ?_
              rcases cnd_some h with ⟨hc, h⟩ | ⟨hc, h⟩
              · refine RU.tt hc ?_
                refine RU.blk (C' := (bif cNe x3 (2) then 193 else 188, [some (.ref 19), some (.int x1), some (.int x2), some (.int x3), some (.int x4), some (.int x5), some (.int x6), some (.int x7), none, none], [], σ)) 3 rfl ?_
                rcases cnd_some h with ⟨hc, h⟩ | ⟨hc, h⟩
                · refine RU.tt hc ?_
                  refine RU.blk (C' := (bif cNe x3 (3) then 203 else 198, [some (.ref 19), some (.int x1), some (.int x2), some (.int x3), some (.int x4), some (.int x5), some (.int x6), some (.int x7), none, none], [], σ)) 3 rfl ?_
                  rcases cnd_some h with ⟨hc, h⟩ | ⟨hc, h⟩
                  · refine RU.tt hc ?_
                    refine RU.blk (C' := (205, [some (.ref 19), some (.int x1), some (.int x2), some (.int x3), some (.int x4), some (.int x5), some (.int x6), some (.int x7), none, none], [.int (0), .ref 19], σ)) 2 rfl ?_
                    obtain ⟨⟨v4, s4⟩, hk, h⟩ := Option.bind_eq_some_iff.mp h
                    dsimp only at h
                    refine RU.call (as := [.ref 19, .int (0)]) (rest := []) (u := some (.int v4)) (C' := (208, [some (.ref 19), some (.int x1), some (.int x2), some (.int x3), some (.int x4), some (.int x5), some (.int x6), some (.int x7), none, none], [.int v4], s4)) rfl rfl (m_X5_placeOf (0) σ hk) rfl rfl ?_
                    cases h
                    exact RU.ret rfl rfl rfl
                  · refine RU.ff hc ?_
                    refine RU.blk (C' := (208, [some (.ref 19), some (.int x1), some (.int x2), some (.int x3), some (.int x4), some (.int x5), some (.int x6), some (.int x7), none, none], [.int x6], σ)) 2 rfl ?_
                    cases h
                    exact RU.ret rfl rfl rfl
                · refine RU.ff hc ?_
                  refine RU.blk (C' := (208, [some (.ref 19), some (.int x1), some (.int x2), some (.int x3), some (.int x4), some (.int x5), some (.int x6), some (.int x7), none, none], [.int x5], σ)) 2 rfl ?_
                  cases h
                  exact RU.ret rfl rfl rfl
              · refine RU.ff hc ?_
                refine RU.blk (C' := (169, [some (.ref 19), some (.int x1), some (.int x2), some (.int x3), some (.int x4), some (.int x5), some (.int x6), some (.int x7), none, none], [.long (gL σ 1224)], σ)) 2 rfl ?_
                obtain ⟨⟨v5, s5⟩, hk, h⟩ := Option.bind_eq_some_iff.mp h
                dsimp only at h
                refine RU.call (as := [.long (gL σ 1224)]) (rest := []) (u := some (.int v5)) (C' := (172, [some (.ref 19), some (.int x1), some (.int x2), some (.int x3), some (.int x4), some (.int x5), some (.int x6), some (.int x7), none, none], [.int v5], s5)) rfl rfl (m_X5_bits (gL σ 1224) σ hk) rfl rfl ?_
                refine RU.blk (C' := (176, [some (.ref 19), some (.int x1), some (.int x2), some (.int x3), some (.int x4), some (.int x5), some (.int x6), some (.int x7), none, none], [.long (gL s5 1239), .int v5], s5)) 2 rfl ?_
                obtain ⟨⟨v6, s6⟩, hk, h⟩ := Option.bind_eq_some_iff.mp h
                dsimp only at h
                refine RU.call (as := [.long (gL s5 1239)]) (rest := [.int v5]) (u := some (.int v6)) (C' := (179, [some (.ref 19), some (.int x1), some (.int x2), some (.int x3), some (.int x4), some (.int x5), some (.int x6), some (.int x7), none, none], [.int v6, .int v5], s6)) rfl rfl (m_X5_bits (gL s5 1239) s5 hk) rfl rfl ?_
                refine RU.blk (C' := (208, [some (.ref 19), some (.int x1), some (.int x2), some (.int x3), some (.int x4), some (.int x5), some (.int x6), some (.int x7), none, none], [.int (v5 - v6)], s6)) 2 rfl ?_
                cases h
                exact RU.ret rfl rfl rfl
            · refine RU.ff hc ?_
              refine RU.blk (C' := (160, [some (.ref 19), some (.int x1), some (.int x2), some (.int x3), some (.int x4), some (.int x5), some (.int x6), some (.int x7), none, none], [.int ((-100) - x4)], σ)) 3 rfl ?_
              cases h
              exact RU.ret rfl rfl rfl
          · refine RU.ff hc ?_
            refine RU.blk (C' := (149, [some (.ref 19), some (.int x1), some (.int x2), some (.int x3), some (.int x4), some (.int x5), some (.int x6), some (.int x7), none, none], [.int x4], σ)) 1 rfl ?_
            cases h
            exact RU.ret rfl rfl rfl
        · refine RU.ff hc ?_
          refine RU.blk (C' := (34, [some (.ref 19), some (.int x1), some (.int x2), some (.int x3), some (.int x4), some (.int x5), some (.int x6), some (.int x7), none, none], [.int (x1 + x7), .ref 32, .ref 19], σ)) 6 rfl ?_
          obtain ⟨hv, h⟩ := cnd_n h
          refine RU.iald (N := 240) rfl rfl hv ?_
          obtain ⟨⟨v7, s7⟩, hk, h⟩ := Option.bind_eq_some_iff.mp h
          dsimp only at h
          refine RU.call (as := [.ref 19, .int (gA σ 32 (x1 + x7).toNatClampNeg)]) (rest := []) (u := some (.int v7)) (C' := (38, [some (.ref 19), some (.int x1), some (.int x2), some (.int x3), some (.int x4), some (.int x5), some (.int x6), some (.int x7), none, none], [.int v7], s7)) rfl rfl (m_X5_steps (gA σ 32 (x1 + x7).toNatClampNeg) σ hk) rfl rfl ?_
          refine RU.blk (C' := (bif cEq v7 0 then 46 else 41, [some (.ref 19), some (.int x1), some (.int x2), some (.int x3), some (.int x4), some (.int x5), some (.int x6), some (.int x7), none, none], [], s7)) 1 rfl ?_
          rcases cnd_some h with ⟨hc, h⟩ | ⟨hc, h⟩
          · refine RU.tt hc ?_
            refine RU.blk (C' := (53, [some (.ref 19), some (.int x1), some (.int x2), some (.int x3), some (.int x7), some (.int x5), some (.int x6), some (.int x7), some (.int (0)), none], [], s7)) 4 rfl ?_
            exact ih.2 x1 x2 x3 x7 x5 x6 x7 (0) none _ _ _ h
          · refine RU.ff hc ?_
            refine RU.blk (C' := (53, [some (.ref 19), some (.int x1), some (.int x2), some (.int x3), some (.int (-9)), some (.int x5), some (.int x6), some (.int x7), some (.int (0)), none], [], s7)) 5 rfl ?_
            exact ih.2 x1 x2 x3 (-9) x5 x6 x7 (0) none _ _ _ h
    · intro x1 x2 x3 x4 x5 x6 x7 x8 u9 σ v σ' h
      rw [L_X5_voyageBy] at h
      rcases cnd_some h with ⟨hc, h⟩ | ⟨hc, h⟩
      · exact absurd hc (by decide)
      rcases cnd_some h with ⟨hc, h⟩ | ⟨hc, h⟩
      rotate_left
      · exact absurd hc (by decide)
      refine RU.blk (C' := (bif cGe x8 (gI σ 1219) then 136 else 62, [some (.ref 19), some (.int x1), some (.int x2), some (.int x3), some (.int x4), some (.int x5), some (.int x6), some (.int x7), some (.int x8), none], [], σ)) 4 rfl ?_
      rcases cnd_some h with ⟨hc, h⟩ | ⟨hc, h⟩
      · refine RU.tt hc ?_
        refine RU.blk (C' := (14, [some (.ref 19), some (.int x1), some (.int x2), some (.int x3), some (.int x4), some (.int x5), some (.int x6), some (.int (x7 + (1))), some (.int x8), none], [], σ)) 2 rfl ?_
        exact ih.1 x1 x2 x3 x4 x5 x6 (x7 + (1)) (some (.int x8)) none _ _ _ h
      · refine RU.ff hc ?_
        refine RU.blk (C' := (68, [some (.ref 19), some (.int x1), some (.int x2), some (.int x3), some (.int x4), some (.int x5), some (.int x6), some (.int x7), some (.int x8), none], [.int x8, .int (gI σ 1223)], σ)) 3 rfl ?_
        obtain ⟨⟨v8, s8⟩, hk, h⟩ := Option.bind_eq_some_iff.mp h
        dsimp only at h
        refine RU.call (as := [.int (gI σ 1223), .int x8]) (rest := []) (u := some (.int v8)) (C' := (71, [some (.ref 19), some (.int x1), some (.int x2), some (.int x3), some (.int x4), some (.int x5), some (.int x6), some (.int x7), some (.int x8), none], [.int v8], s8)) rfl rfl (m_X5_isIn (gI σ 1223) x8 σ hk) rfl rfl ?_
        refine RU.blk (C' := (bif cEq v8 0 then 79 else 74, [some (.ref 19), some (.int x1), some (.int x2), some (.int x3), some (.int x4), some (.int x5), some (.int x6), some (.int x7), some (.int x8), none], [], s8)) 1 rfl ?_
        rcases cnd_some h with ⟨hc, h⟩ | ⟨hc, h⟩
        · refine RU.tt hc ?_
          refine RU.blk (C' := (89, [some (.ref 19), some (.int x1), some (.int x2), some (.int x3), some (.int x4), some (.int x5), some (.int x6), some (.int x7), some (.int x8), none], [.int x8, .ref 19, .ref 20, .int x8, .ref 19], s8)) 6 rfl ?_
          obtain ⟨⟨v9, s9⟩, hk, h⟩ := Option.bind_eq_some_iff.mp h
          dsimp only at h
          refine RU.call (as := [.ref 19, .int x8]) (rest := [.ref 20, .int x8, .ref 19]) (u := some (.int v9)) (C' := (92, [some (.ref 19), some (.int x1), some (.int x2), some (.int x3), some (.int x4), some (.int x5), some (.int x6), some (.int x7), some (.int x8), none], [.int v9, .ref 20, .int x8, .ref 19], s9)) rfl rfl (m_X5_placeOf x8 s8 hk) rfl rfl ?_
          obtain ⟨hv, h⟩ := cnd_n h
          refine RU.iald (N := 36) rfl rfl hv ?_
          obtain ⟨⟨v10, s10⟩, hk, h⟩ := Option.bind_eq_some_iff.mp h
          dsimp only at h
          refine RU.call (as := [.ref 19, .int x8, .int (gA s9 20 v9.toNatClampNeg)]) (rest := []) (u := some (.int v10)) (C' := (96, [some (.ref 19), some (.int x1), some (.int x2), some (.int x3), some (.int x4), some (.int x5), some (.int x6), some (.int x7), some (.int x8), none], [.int v10], s10)) rfl rfl (m_X5_tells x8 (gA s9 20 v9.toNatClampNeg) s9 hk) rfl rfl ?_
          refine RU.blk (C' := (bif cGe v10 0 then 109 else 105, [some (.ref 19), some (.int x1), some (.int x2), some (.int x3), some (.int x4), some (.int x5), some (.int x6), some (.int x7), some (.int x8), some (.int v10)], [.int x5], s10)) 4 rfl ?_
          rcases cnd_some h with ⟨hc, h⟩ | ⟨hc, h⟩
          · refine RU.tt hc ?_
            refine RU.blk (C' := (bif cLe v10 x6 then 126 else 121, [some (.ref 19), some (.int x1), some (.int x2), some (.int x3), some (.int x4), some (.int (x5 + v10)), some (.int x6), some (.int x7), some (.int x8), some (.int v10)], [], s10)) 6 rfl ?_
            rcases cnd_some h with ⟨hc, h⟩ | ⟨hc, h⟩
            · refine RU.tt hc ?_
              refine RU.blk (C' := (53, [some (.ref 19), some (.int x1), some (.int x2), some (.int x3), some (.int x4), some (.int (x5 + v10)), some (.int x6), some (.int x7), some (.int (x8 + (1))), some (.int v10)], [], s10)) 4 rfl ?_
              exact ih.2 x1 x2 x3 x4 (x5 + v10) x6 x7 (x8 + (1)) (some (.int v10)) _ _ _ h
            · refine RU.ff hc ?_
              refine RU.blk (C' := (53, [some (.ref 19), some (.int x1), some (.int x2), some (.int x3), some (.int x4), some (.int (x5 + v10)), some (.int v10), some (.int x7), some (.int (x8 + (1))), some (.int v10)], [], s10)) 5 rfl ?_
              exact ih.2 x1 x2 x3 x4 (x5 + v10) v10 x7 (x8 + (1)) (some (.int v10)) _ _ _ h
          · refine RU.ff hc ?_
            refine RU.blk (C' := (bif cLe v10 x6 then 126 else 121, [some (.ref 19), some (.int x1), some (.int x2), some (.int x3), some (.int x4), some (.int (x5 + (0))), some (.int x6), some (.int x7), some (.int x8), some (.int v10)], [], s10)) 7 rfl ?_
            rcases cnd_some h with ⟨hc, h⟩ | ⟨hc, h⟩
            · refine RU.tt hc ?_
              refine RU.blk (C' := (53, [some (.ref 19), some (.int x1), some (.int x2), some (.int x3), some (.int x4), some (.int (x5 + (0))), some (.int x6), some (.int x7), some (.int (x8 + (1))), some (.int v10)], [], s10)) 4 rfl ?_
              exact ih.2 x1 x2 x3 x4 (x5 + (0)) x6 x7 (x8 + (1)) (some (.int v10)) _ _ _ h
            · refine RU.ff hc ?_
              refine RU.blk (C' := (53, [some (.ref 19), some (.int x1), some (.int x2), some (.int x3), some (.int x4), some (.int (x5 + (0))), some (.int v10), some (.int x7), some (.int (x8 + (1))), some (.int v10)], [], s10)) 5 rfl ?_
              exact ih.2 x1 x2 x3 x4 (x5 + (0)) v10 x7 (x8 + (1)) (some (.int v10)) _ _ _ h
        · refine RU.ff hc ?_
          refine RU.blk (C' := (bif cLe (-9) x6 then 126 else 121, [some (.ref 19), some (.int x1), some (.int x2), some (.int x3), some (.int x4), some (.int (x5 + (0))), some (.int x6), some (.int x7), some (.int x8), some (.int (-9))], [], s8)) 13 rfl ?_
          rcases cnd_some h with ⟨hc, h⟩ | ⟨hc, h⟩
          · refine RU.tt hc ?_
            refine RU.blk (C' := (53, [some (.ref 19), some (.int x1), some (.int x2), some (.int x3), some (.int x4), some (.int (x5 + (0))), some (.int x6), some (.int x7), some (.int (x8 + (1))), some (.int (-9))], [], s8)) 4 rfl ?_
            exact ih.2 x1 x2 x3 x4 (x5 + (0)) x6 x7 (x8 + (1)) (some (.int (-9))) _ _ _ h
          · refine RU.ff hc ?_
            refine RU.blk (C' := (53, [some (.ref 19), some (.int x1), some (.int x2), some (.int x3), some (.int x4), some (.int (x5 + (0))), some (.int (-9)), some (.int x7), some (.int (x8 + (1))), some (.int (-9))], [], s8)) 5 rfl ?_
            exact ih.2 x1 x2 x3 x4 (x5 + (0)) (-9) x7 (x8 + (1)) (some (.int (-9))) _ _ _ h
noncomputable def F_X5_voyageBy (p0 : Int32) (p1 : Int32) (p2 : Int32) (σ : PS) : Option (Int32 × PS) :=
  L_X5_voyageBy fuelN  14 p0 p1 p2 (-9) (0) (-9) (0) 0 σ
theorem m_X5_voyageBy (p0 : Int32) (p1 : Int32) (p2 : Int32) (σ : PS) {v : Int32} {σ' : PS} (h : F_X5_voyageBy p0 p1 p2 σ = some (v, σ')) : PR 156 [.ref 19, .int p0, .int p1, .int p2] σ (some (.int v)) σ' := by
  refine PR.enter (L := [some (.ref 19), some (.int p0), some (.int p1), some (.int p2), none, none, none, none, none, none]) uT_156 uD_156 rfl rfl ?_
  unfold F_X5_voyageBy at h
  refine RU.blk (C' := (14, [some (.ref 19), some (.int p0), some (.int p1), some (.int p2), some (.int (-9)), some (.int (0)), some (.int (-9)), some (.int (0)), none, none], [], σ)) 8 rfl ?_
  exact (ml_X5_voyageBy fuelN).1 p0 p1 p2 (-9) (0) (-9) (0) none none _ _ _ h
noncomputable def L_X5_voyage  : Nat → Int32 → Int32 → Int32 → Int32 → Int32 → PS → Option (Int32 × PS)
  | 0, _, _, _, _, _, _ => none
  | n + 1, x1, x3, x4, x5, x7, σ => 
    bif cGe x7 x4 then (
      (F_X5_keepAll σ).bind fun q1 =>
      let s1 := q1.2
      (F_X5_voyageBy (((60) * x1) + x3) x4 x5 s1).bind fun q2 =>
      let v2 := q2.1
      let s2 := q2.2
      (F_X5_bringBack s2).bind fun q3 =>
      let s3 := q3.2
      (F_X5_refused v2 s3).bind fun q4 =>
      let v4 := q4.1
      let s4 := q4.2
      some (v4, s4)
    ) else (
      bif vin ((((60) * x1) + x3) + x7) 240 then
      (F_X5_in (gA σ 32 ((((60) * x1) + x3) + x7).toNatClampNeg).toInt64 0 (3) σ).bind fun q5 =>
      let v5 := q5.1
      let s5 := q5.2
      bif cNe v5 0 then (
        L_X5_voyage n  x1 x3 x4 x5 (x7 + (1)) s5
      ) else (
        (F_X5_refused (-2) s5).bind fun q6 =>
        let v6 := q6.1
        let s6 := q6.2
        some (v6, s6)
      )
      else none
    )
theorem ml_X5_voyage  (n : Nat) : (∀ (x1 : Int32) (x3 : Int32) (x4 : Int32) (x5 : Int32) (x7 : Int32) (u2 : Option Value) (u6 : Option Value) (σ : PS) (v : Int32) (σ' : PS), L_X5_voyage n x1 x3 x4 x5 x7 σ = some (v, σ') → RU ubX5_voyage 4 99 (95, [some (.ref 19), some (.int x1), u2, some (.int x3), some (.int x4), some (.int x5), u6, some (.int x7)], [], σ) (some (.int v)) σ') := by
  induction n with
  | zero =>
    intro x1 x3 x4 x5 x7 u2 u6 σ v σ' h; exact absurd (show (none : Option (Int32 × PS)) = some (v, σ') from h) (by simp)
  | succ n ih =>
    intro x1 x3 x4 x5 x7 u2 u6 σ v σ' h
    rw [L_X5_voyage] at h
    refine RU.blk (C' := (bif cGe x7 x4 then 140 else 102, [some (.ref 19), some (.int x1), none, some (.int x3), some (.int x4), some (.int x5), none, some (.int x7)], [], σ)) 3 rfl ?_
    rcases cnd_some h with ⟨hc, h⟩ | ⟨hc, h⟩
    · refine RU.tt hc ?_
      refine RU.blk (C' := (141, [some (.ref 19), some (.int x1), none, some (.int x3), some (.int x4), some (.int x5), none, some (.int x7)], [.ref 19], σ)) 1 rfl ?_
      obtain ⟨⟨v1, s1⟩, hk, h⟩ := Option.bind_eq_some_iff.mp h
      dsimp only at h
      refine RU.call (as := [.ref 19]) (rest := []) (u := none) (C' := (144, [some (.ref 19), some (.int x1), none, some (.int x3), some (.int x4), some (.int x5), none, some (.int x7)], [], s1)) rfl rfl (m_X5_keepAll σ hk) rfl rfl ?_
      refine RU.blk (C' := (155, [some (.ref 19), some (.int x1), none, some (.int x3), some (.int x4), some (.int x5), none, some (.int x7)], [.int x5, .int x4, .int (((60) * x1) + x3), .ref 19], s1)) 8 rfl ?_
      obtain ⟨⟨v2, s2⟩, hk, h⟩ := Option.bind_eq_some_iff.mp h
      dsimp only at h
      refine RU.call (as := [.ref 19, .int (((60) * x1) + x3), .int x4, .int x5]) (rest := []) (u := some (.int v2)) (C' := (158, [some (.ref 19), some (.int x1), none, some (.int x3), some (.int x4), some (.int x5), none, some (.int x7)], [.int v2], s2)) rfl rfl (m_X5_voyageBy (((60) * x1) + x3) x4 x5 s1 hk) rfl rfl ?_
      refine RU.blk (C' := (161, [some (.ref 19), some (.int x1), none, some (.int x3), some (.int x4), some (.int x5), none, some (.int v2)], [.ref 19], s2)) 2 rfl ?_
      obtain ⟨⟨v3, s3⟩, hk, h⟩ := Option.bind_eq_some_iff.mp h
      dsimp only at h
      refine RU.call (as := [.ref 19]) (rest := []) (u := none) (C' := (164, [some (.ref 19), some (.int x1), none, some (.int x3), some (.int x4), some (.int x5), none, some (.int v2)], [], s3)) rfl rfl (m_X5_bringBack s2 hk) rfl rfl ?_
      refine RU.blk (C' := (167, [some (.ref 19), some (.int x1), none, some (.int x3), some (.int x4), some (.int x5), none, some (.int v2)], [.int v2, .ref 19], s3)) 2 rfl ?_
      obtain ⟨⟨v4, s4⟩, hk, h⟩ := Option.bind_eq_some_iff.mp h
      dsimp only at h
      refine RU.call (as := [.ref 19, .int v2]) (rest := []) (u := some (.int v4)) (C' := (170, [some (.ref 19), some (.int x1), none, some (.int x3), some (.int x4), some (.int x5), none, some (.int v2)], [.int v4], s4)) rfl rfl (m_X5_refused v2 s3 hk) rfl rfl ?_
      cases h
      exact RU.ret rfl rfl rfl
    · refine RU.ff hc ?_
      refine RU.blk (C' := (115, [some (.ref 19), some (.int x1), none, some (.int x3), some (.int x4), some (.int x5), none, some (.int x7)], [.int ((((60) * x1) + x3) + x7), .ref 32], σ)) 9 rfl ?_
      obtain ⟨hv, h⟩ := cnd_n h
      refine RU.iald (N := 240) rfl rfl hv ?_
      refine RU.blk (C' := (121, [some (.ref 19), some (.int x1), none, some (.int x3), some (.int x4), some (.int x5), none, some (.int x7)], [.long (3), .long 0, .long (gA σ 32 ((((60) * x1) + x3) + x7).toNatClampNeg).toInt64], σ)) 3 rfl ?_
      obtain ⟨⟨v5, s5⟩, hk, h⟩ := Option.bind_eq_some_iff.mp h
      dsimp only at h
      refine RU.call (as := [.long (gA σ 32 ((((60) * x1) + x3) + x7).toNatClampNeg).toInt64, .long 0, .long (3)]) (rest := []) (u := some (.int v5)) (C' := (124, [some (.ref 19), some (.int x1), none, some (.int x3), some (.int x4), some (.int x5), none, some (.int x7)], [.int v5], s5)) rfl rfl (m_X5_in (gA σ 32 ((((60) * x1) + x3) + x7).toNatClampNeg).toInt64 0 (3) σ hk) rfl rfl ?_
      refine RU.blk (C' := (bif cNe v5 0 then 134 else 127, [some (.ref 19), some (.int x1), none, some (.int x3), some (.int x4), some (.int x5), none, some (.int x7)], [], s5)) 1 rfl ?_
      rcases cnd_some h with ⟨hc, h⟩ | ⟨hc, h⟩
      · refine RU.tt hc ?_
        refine RU.blk (C' := (95, [some (.ref 19), some (.int x1), none, some (.int x3), some (.int x4), some (.int x5), none, some (.int (x7 + (1)))], [], s5)) 2 rfl ?_
        exact ih x1 x3 x4 x5 (x7 + (1)) none none _ _ _ h
      · refine RU.ff hc ?_
        refine RU.blk (C' := (130, [some (.ref 19), some (.int x1), none, some (.int x3), some (.int x4), some (.int x5), none, some (.int x7)], [.int (-2), .ref 19], s5)) 2 rfl ?_
        obtain ⟨⟨v6, s6⟩, hk, h⟩ := Option.bind_eq_some_iff.mp h
        dsimp only at h
        refine RU.call (as := [.ref 19, .int (-2)]) (rest := []) (u := some (.int v6)) (C' := (133, [some (.ref 19), some (.int x1), none, some (.int x3), some (.int x4), some (.int x5), none, some (.int x7)], [.int v6], s6)) rfl rfl (m_X5_refused (-2) s5 hk) rfl rfl ?_
        cases h
        exact RU.ret rfl rfl rfl
noncomputable def F_X5_voyage (p0 : Int32) (p1 : Int32) (p2 : Int32) (p3 : Int32) (p4 : Int32) (σ : PS) : Option (Int32 × PS) :=
  (F_X5_noSheet p0 σ).bind fun q7 =>
  let v7 := q7.1
  let s7 := q7.2
  bif cEq v7 0 then (
    (F_X5_in (p1).toInt64 0 (2) s7).bind fun q8 =>
    let v8 := q8.1
    let s8 := q8.2
    bif cEq v8 0 then (
      (F_X5_refused (-2) s8).bind fun q9 =>
      let v9 := q9.1
      let s9 := q9.2
      some (v9, s9)
    ) else (
      (F_X5_in (p3).toInt64 0 (40) s8).bind fun q10 =>
      let v10 := q10.1
      let s10 := q10.2
      bif cEq v10 0 then (
        (F_X5_refused (-2) s10).bind fun q11 =>
        let v11 := q11.1
        let s11 := q11.2
        some (v11, s11)
      ) else (
        (F_X5_in (p4).toInt64 0 (4) s10).bind fun q12 =>
        let v12 := q12.1
        let s12 := q12.2
        bif cNe v12 0 then (
          bif cNe (gI s12 1219) 0 then (
            (F_X5_cellsBarred p0 p1 p2 (p3).toInt64 s12).bind fun q13 =>
            let v13 := q13.1
            let s13 := q13.2
            bif cGe v13 0 then (
              L_X5_voyage fuelN  p0 p2 p3 p4 (0) s13
            ) else (
              some (v13, s13)
            )
          ) else (
            (F_X5_refused (-3) s12).bind fun q14 =>
            let v14 := q14.1
            let s14 := q14.2
            some (v14, s14)
          )
        ) else (
          (F_X5_refused (-2) s12).bind fun q15 =>
          let v15 := q15.1
          let s15 := q15.2
          some (v15, s15)
        )
      )
    )
  ) else (
    (F_X5_refused (-1) s7).bind fun q16 =>
    let v16 := q16.1
    let s16 := q16.2
    some (v16, s16)
  )
theorem m_X5_voyage (p0 : Int32) (p1 : Int32) (p2 : Int32) (p3 : Int32) (p4 : Int32) (σ : PS) {v : Int32} {σ' : PS} (h : F_X5_voyage p0 p1 p2 p3 p4 σ = some (v, σ')) : PR 157 [.ref 19, .int p0, .int p1, .int p2, .int p3, .int p4] σ (some (.int v)) σ' := by
  refine PR.enter (L := [some (.ref 19), some (.int p0), some (.int p1), some (.int p2), some (.int p3), some (.int p4), none, none]) uT_157 uD_157 rfl rfl ?_
  unfold F_X5_voyage at h
  refine RU.blk (C' := (1, [some (.ref 19), some (.int p0), some (.int p1), some (.int p2), some (.int p3), some (.int p4), none, none], [.int p0], σ)) 1 rfl ?_
  obtain ⟨⟨v7, s7⟩, hk, h⟩ := Option.bind_eq_some_iff.mp h
  dsimp only at h
  refine RU.call (as := [.int p0]) (rest := []) (u := some (.int v7)) (C' := (4, [some (.ref 19), some (.int p0), some (.int p1), some (.int p2), some (.int p3), some (.int p4), none, none], [.int v7], s7)) rfl rfl (m_X5_noSheet p0 σ hk) rfl rfl ?_
  refine RU.blk (C' := (bif cEq v7 0 then 13 else 7, [some (.ref 19), some (.int p0), some (.int p1), some (.int p2), some (.int p3), some (.int p4), none, none], [], s7)) 1 rfl ?_
  rcases cnd_some h with ⟨hc, h⟩ | ⟨hc, h⟩
  · refine RU.tt hc ?_
    refine RU.blk (C' := (19, [some (.ref 19), some (.int p0), some (.int p1), some (.int p2), some (.int p3), some (.int p4), none, none], [.long (2), .long 0, .long (p1).toInt64], s7)) 4 rfl ?_
    obtain ⟨⟨v8, s8⟩, hk, h⟩ := Option.bind_eq_some_iff.mp h
    dsimp only at h
    refine RU.call (as := [.long (p1).toInt64, .long 0, .long (2)]) (rest := []) (u := some (.int v8)) (C' := (22, [some (.ref 19), some (.int p0), some (.int p1), some (.int p2), some (.int p3), some (.int p4), none, none], [.int v8], s8)) rfl rfl (m_X5_in (p1).toInt64 0 (2) s7 hk) rfl rfl ?_
    refine RU.blk (C' := (bif cEq v8 0 then 51 else 25, [some (.ref 19), some (.int p0), some (.int p1), some (.int p2), some (.int p3), some (.int p4), none, none], [], s8)) 1 rfl ?_
    rcases cnd_some h with ⟨hc, h⟩ | ⟨hc, h⟩
    · refine RU.tt hc ?_
      refine RU.blk (C' := (54, [some (.ref 19), some (.int p0), some (.int p1), some (.int p2), some (.int p3), some (.int p4), none, none], [.int (-2), .ref 19], s8)) 2 rfl ?_
      obtain ⟨⟨v9, s9⟩, hk, h⟩ := Option.bind_eq_some_iff.mp h
      dsimp only at h
      refine RU.call (as := [.ref 19, .int (-2)]) (rest := []) (u := some (.int v9)) (C' := (57, [some (.ref 19), some (.int p0), some (.int p1), some (.int p2), some (.int p3), some (.int p4), none, none], [.int v9], s9)) rfl rfl (m_X5_refused (-2) s8 hk) rfl rfl ?_
      cases h
      exact RU.ret rfl rfl rfl
    · refine RU.ff hc ?_
      refine RU.blk (C' := (32, [some (.ref 19), some (.int p0), some (.int p1), some (.int p2), some (.int p3), some (.int p4), none, none], [.long (40), .long 0, .long (p3).toInt64], s8)) 4 rfl ?_
      obtain ⟨⟨v10, s10⟩, hk, h⟩ := Option.bind_eq_some_iff.mp h
      dsimp only at h
      refine RU.call (as := [.long (p3).toInt64, .long 0, .long (40)]) (rest := []) (u := some (.int v10)) (C' := (35, [some (.ref 19), some (.int p0), some (.int p1), some (.int p2), some (.int p3), some (.int p4), none, none], [.int v10], s10)) rfl rfl (m_X5_in (p3).toInt64 0 (40) s8 hk) rfl rfl ?_
      refine RU.blk (C' := (bif cEq v10 0 then 51 else 38, [some (.ref 19), some (.int p0), some (.int p1), some (.int p2), some (.int p3), some (.int p4), none, none], [], s10)) 1 rfl ?_
      rcases cnd_some h with ⟨hc, h⟩ | ⟨hc, h⟩
      · refine RU.tt hc ?_
        refine RU.blk (C' := (54, [some (.ref 19), some (.int p0), some (.int p1), some (.int p2), some (.int p3), some (.int p4), none, none], [.int (-2), .ref 19], s10)) 2 rfl ?_
        obtain ⟨⟨v11, s11⟩, hk, h⟩ := Option.bind_eq_some_iff.mp h
        dsimp only at h
        refine RU.call (as := [.ref 19, .int (-2)]) (rest := []) (u := some (.int v11)) (C' := (57, [some (.ref 19), some (.int p0), some (.int p1), some (.int p2), some (.int p3), some (.int p4), none, none], [.int v11], s11)) rfl rfl (m_X5_refused (-2) s10 hk) rfl rfl ?_
        cases h
        exact RU.ret rfl rfl rfl
      · refine RU.ff hc ?_
        refine RU.blk (C' := (45, [some (.ref 19), some (.int p0), some (.int p1), some (.int p2), some (.int p3), some (.int p4), none, none], [.long (4), .long 0, .long (p4).toInt64], s10)) 4 rfl ?_
        obtain ⟨⟨v12, s12⟩, hk, h⟩ := Option.bind_eq_some_iff.mp h
        dsimp only at h
        refine RU.call (as := [.long (p4).toInt64, .long 0, .long (4)]) (rest := []) (u := some (.int v12)) (C' := (48, [some (.ref 19), some (.int p0), some (.int p1), some (.int p2), some (.int p3), some (.int p4), none, none], [.int v12], s12)) rfl rfl (m_X5_in (p4).toInt64 0 (4) s10 hk) rfl rfl ?_
        refine RU.blk (C' := (bif cNe v12 0 then 58 else 51, [some (.ref 19), some (.int p0), some (.int p1), some (.int p2), some (.int p3), some (.int p4), none, none], [], s12)) 1 rfl ?_
        rcases cnd_some h with ⟨hc, h⟩ | ⟨hc, h⟩
        · refine RU.tt hc ?_
          refine RU.blk (C' := (bif cNe (gI s12 1219) 0 then 72 else 65, [some (.ref 19), some (.int p0), some (.int p1), some (.int p2), some (.int p3), some (.int p4), none, none], [], s12)) 3 rfl ?_
          rcases cnd_some h with ⟨hc, h⟩ | ⟨hc, h⟩
          · refine RU.tt hc ?_
            refine RU.blk (C' := (79, [some (.ref 19), some (.int p0), some (.int p1), some (.int p2), some (.int p3), some (.int p4), none, none], [.long (p3).toInt64, .int p2, .int p1, .int p0, .ref 19], s12)) 6 rfl ?_
            obtain ⟨⟨v13, s13⟩, hk, h⟩ := Option.bind_eq_some_iff.mp h
            dsimp only at h
            refine RU.call (as := [.ref 19, .int p0, .int p1, .int p2, .long (p3).toInt64]) (rest := []) (u := some (.int v13)) (C' := (82, [some (.ref 19), some (.int p0), some (.int p1), some (.int p2), some (.int p3), some (.int p4), none, none], [.int v13], s13)) rfl rfl (m_X5_cellsBarred p0 p1 p2 (p3).toInt64 s12 hk) rfl rfl ?_
            refine RU.blk (C' := (bif cGe v13 0 then 92 else 89, [some (.ref 19), some (.int p0), some (.int p1), some (.int p2), some (.int p3), some (.int p4), some (.int v13), none], [], s13)) 3 rfl ?_
            rcases cnd_some h with ⟨hc, h⟩ | ⟨hc, h⟩
            · refine RU.tt hc ?_
              refine RU.blk (C' := (95, [some (.ref 19), some (.int p0), some (.int p1), some (.int p2), some (.int p3), some (.int p4), some (.int v13), some (.int (0))], [], s13)) 2 rfl ?_
              exact (ml_X5_voyage fuelN) p0 p2 p3 p4 (0) (some (.int p1)) (some (.int v13)) _ _ _ h
            · refine RU.ff hc ?_
              refine RU.blk (C' := (91, [some (.ref 19), some (.int p0), some (.int p1), some (.int p2), some (.int p3), some (.int p4), some (.int v13), none], [.int v13], s13)) 1 rfl ?_
              cases h
              exact RU.ret rfl rfl rfl
          · refine RU.ff hc ?_
            refine RU.blk (C' := (68, [some (.ref 19), some (.int p0), some (.int p1), some (.int p2), some (.int p3), some (.int p4), none, none], [.int (-3), .ref 19], s12)) 2 rfl ?_
            obtain ⟨⟨v14, s14⟩, hk, h⟩ := Option.bind_eq_some_iff.mp h
            dsimp only at h
            refine RU.call (as := [.ref 19, .int (-3)]) (rest := []) (u := some (.int v14)) (C' := (71, [some (.ref 19), some (.int p0), some (.int p1), some (.int p2), some (.int p3), some (.int p4), none, none], [.int v14], s14)) rfl rfl (m_X5_refused (-3) s12 hk) rfl rfl ?_
            cases h
            exact RU.ret rfl rfl rfl
        · refine RU.ff hc ?_
          refine RU.blk (C' := (54, [some (.ref 19), some (.int p0), some (.int p1), some (.int p2), some (.int p3), some (.int p4), none, none], [.int (-2), .ref 19], s12)) 2 rfl ?_
          obtain ⟨⟨v15, s15⟩, hk, h⟩ := Option.bind_eq_some_iff.mp h
          dsimp only at h
          refine RU.call (as := [.ref 19, .int (-2)]) (rest := []) (u := some (.int v15)) (C' := (57, [some (.ref 19), some (.int p0), some (.int p1), some (.int p2), some (.int p3), some (.int p4), none, none], [.int v15], s15)) rfl rfl (m_X5_refused (-2) s12 hk) rfl rfl ?_
          cases h
          exact RU.ret rfl rfl rfl
  · refine RU.ff hc ?_
    refine RU.blk (C' := (9, [some (.ref 19), some (.int p0), some (.int p1), some (.int p2), some (.int p3), some (.int p4), none, none], [.int (-1), .ref 19], s7)) 2 rfl ?_
    obtain ⟨⟨v16, s16⟩, hk, h⟩ := Option.bind_eq_some_iff.mp h
    dsimp only at h
    refine RU.call (as := [.ref 19, .int (-1)]) (rest := []) (u := some (.int v16)) (C' := (12, [some (.ref 19), some (.int p0), some (.int p1), some (.int p2), some (.int p3), some (.int p4), none, none], [.int v16], s16)) rfl rfl (m_X5_refused (-1) s7 hk) rfl rfl ?_
    cases h
    exact RU.ret rfl rfl rfl
noncomputable def L_X5_isOver  : Nat → Int32 → Int32 → Int32 → Int32 → Int32 → PS → Option (Int32 × PS)
  | 0, _, _, _, _, _, _ => none
  | n + 1, x1, x2, x3, x4, x5, σ => 
    bif cGe x5 (gI σ 1219) then (
      bif okb x4 then some (x4, σ) else none
    ) else (
      bif cNe x4 0 then (
        L_X5_isOver n  x1 x2 x3 (1) (x5 + (1)) σ
      ) else (
        (F_X5_isIn (gI σ 1223) x5 σ).bind fun q1 =>
        let v1 := q1.1
        let s1 := q1.2
        bif cNe v1 0 then (
          L_X5_isOver n  x1 x2 x3 (0) (x5 + (1)) s1
        ) else (
          bif cNe ((((gI s1 1217) * x2) + x1) + x5) x3 then (
            L_X5_isOver n  x1 x2 x3 (0) (x5 + (1)) s1
          ) else (
            L_X5_isOver n  x1 x2 x3 (1) (x5 + (1)) s1
          )
        )
      )
    )
theorem ml_X5_isOver  (n : Nat) : (∀ (x1 : Int32) (x2 : Int32) (x3 : Int32) (x4 : Int32) (x5 : Int32) (σ : PS) (v : Int32) (σ' : PS), L_X5_isOver n x1 x2 x3 x4 x5 σ = some (v, σ') → RU ubX5_isOver 1 21 (6, [some (.ref 19), some (.int x1), some (.int x2), some (.int x3), some (.int x4), some (.int x5)], [], σ) (some (.int v)) σ') := by
  induction n with
  | zero =>
    intro x1 x2 x3 x4 x5 σ v σ' h; exact absurd (show (none : Option (Int32 × PS)) = some (v, σ') from h) (by simp)
  | succ n ih =>
    intro x1 x2 x3 x4 x5 σ v σ' h
    rw [L_X5_isOver] at h
    refine RU.blk (C' := (bif cGe x5 (gI σ 1219) then 60 else 15, [some (.ref 19), some (.int x1), some (.int x2), some (.int x3), some (.int x4), some (.int x5)], [], σ)) 4 rfl ?_
    rcases cnd_some h with ⟨hc, h⟩ | ⟨hc, h⟩
    · refine RU.tt hc ?_
      refine RU.blk (C' := (62, [some (.ref 19), some (.int x1), some (.int x2), some (.int x3), some (.int x4), some (.int x5)], [.int x4], σ)) 1 rfl ?_
      obtain ⟨hb, h⟩ := cnd_n h
      cases h
      exact RU.ret rfl (pret_b hb) rfl
    · refine RU.ff hc ?_
      refine RU.blk (C' := (bif cNe x4 0 then 47 else 20, [some (.ref 19), some (.int x1), some (.int x2), some (.int x3), some (.int x4), some (.int x5)], [], σ)) 2 rfl ?_
      rcases cnd_some h with ⟨hc, h⟩ | ⟨hc, h⟩
      · refine RU.tt hc ?_
        refine RU.blk (C' := (6, [some (.ref 19), some (.int x1), some (.int x2), some (.int x3), some (.int (1)), some (.int (x5 + (1)))], [], σ)) 5 rfl ?_
        exact ih x1 x2 x3 (1) (x5 + (1)) _ _ _ h
      · refine RU.ff hc ?_
        refine RU.blk (C' := (26, [some (.ref 19), some (.int x1), some (.int x2), some (.int x3), some (.int x4), some (.int x5)], [.int x5, .int (gI σ 1223)], σ)) 3 rfl ?_
        obtain ⟨⟨v1, s1⟩, hk, h⟩ := Option.bind_eq_some_iff.mp h
        dsimp only at h
        refine RU.call (as := [.int (gI σ 1223), .int x5]) (rest := []) (u := some (.int v1)) (C' := (29, [some (.ref 19), some (.int x1), some (.int x2), some (.int x3), some (.int x4), some (.int x5)], [.int v1], s1)) rfl rfl (m_X5_isIn (gI σ 1223) x5 σ hk) rfl rfl ?_
        refine RU.blk (C' := (bif cNe v1 0 then 51 else 32, [some (.ref 19), some (.int x1), some (.int x2), some (.int x3), some (.int x4), some (.int x5)], [], s1)) 1 rfl ?_
        rcases cnd_some h with ⟨hc, h⟩ | ⟨hc, h⟩
        · refine RU.tt hc ?_
          refine RU.blk (C' := (6, [some (.ref 19), some (.int x1), some (.int x2), some (.int x3), some (.int (0)), some (.int (x5 + (1)))], [], s1)) 4 rfl ?_
          exact ih x1 x2 x3 (0) (x5 + (1)) _ _ _ h
        · refine RU.ff hc ?_
          refine RU.blk (C' := (bif cNe ((((gI s1 1217) * x2) + x1) + x5) x3 then 51 else 47, [some (.ref 19), some (.int x1), some (.int x2), some (.int x3), some (.int x4), some (.int x5)], [], s1)) 10 rfl ?_
          rcases cnd_some h with ⟨hc, h⟩ | ⟨hc, h⟩
          · refine RU.tt hc ?_
            refine RU.blk (C' := (6, [some (.ref 19), some (.int x1), some (.int x2), some (.int x3), some (.int (0)), some (.int (x5 + (1)))], [], s1)) 4 rfl ?_
            exact ih x1 x2 x3 (0) (x5 + (1)) _ _ _ h
          · refine RU.ff hc ?_
            refine RU.blk (C' := (6, [some (.ref 19), some (.int x1), some (.int x2), some (.int x3), some (.int (1)), some (.int (x5 + (1)))], [], s1)) 5 rfl ?_
            exact ih x1 x2 x3 (1) (x5 + (1)) _ _ _ h
noncomputable def F_X5_isOver (p0 : Int32) (p1 : Int32) (p2 : Int32) (σ : PS) : Option (Int32 × PS) :=
  L_X5_isOver fuelN  p0 p1 p2 (0) (0) σ
theorem m_X5_isOver (p0 : Int32) (p1 : Int32) (p2 : Int32) (σ : PS) {v : Int32} {σ' : PS} (h : F_X5_isOver p0 p1 p2 σ = some (v, σ')) : PR 158 [.ref 19, .int p0, .int p1, .int p2] σ (some (.int v)) σ' := by
  refine PR.enter (L := [some (.ref 19), some (.int p0), some (.int p1), some (.int p2), none, none]) uT_158 uD_158 rfl rfl ?_
  unfold F_X5_isOver at h
  refine RU.blk (C' := (6, [some (.ref 19), some (.int p0), some (.int p1), some (.int p2), some (.int (0)), some (.int (0))], [], σ)) 4 rfl ?_
  exact (ml_X5_isOver fuelN) p0 p1 p2 (0) (0) _ _ _ h
noncomputable def F_X5_farAt (p0 : Int32) (p1 : Int32) (σ : PS) : Option (Int32 × PS) :=
  (F_X5_isPlace p0 p1 σ).bind fun q1 =>
  let v1 := q1.1
  let s1 := q1.2
  bif cEq v1 0 then (
    some ((-9), s1)
  ) else (
    bif vin (((gI s1 1217) * p1) + p0) 36 then
    some ((gA s1 26 (((gI s1 1217) * p1) + p0).toNatClampNeg), s1)
    else none
  )
theorem m_X5_farAt (p0 : Int32) (p1 : Int32) (σ : PS) {v : Int32} {σ' : PS} (h : F_X5_farAt p0 p1 σ = some (v, σ')) : PR 159 [.ref 19, .int p0, .int p1] σ (some (.int v)) σ' := by
  refine PR.enter (L := [some (.ref 19), some (.int p0), some (.int p1)]) uT_159 uD_159 rfl rfl ?_
  unfold F_X5_farAt at h
  refine RU.blk (C' := (3, [some (.ref 19), some (.int p0), some (.int p1)], [.int p1, .int p0, .ref 19], σ)) 3 rfl ?_
  obtain ⟨⟨v1, s1⟩, hk, h⟩ := Option.bind_eq_some_iff.mp h
  dsimp only at h
  refine RU.call (as := [.ref 19, .int p0, .int p1]) (rest := []) (u := some (.int v1)) (C' := (6, [some (.ref 19), some (.int p0), some (.int p1)], [.int v1], s1)) rfl rfl (m_X5_isPlace p0 p1 σ hk) rfl rfl ?_
  refine RU.blk (C' := (bif cEq v1 0 then 25 else 9, [some (.ref 19), some (.int p0), some (.int p1)], [], s1)) 1 rfl ?_
  rcases cnd_some h with ⟨hc, h⟩ | ⟨hc, h⟩
  · refine RU.tt hc ?_
    refine RU.blk (C' := (27, [some (.ref 19), some (.int p0), some (.int p1)], [.int (-9)], s1)) 1 rfl ?_
    cases h
    exact RU.ret rfl rfl rfl
  · refine RU.ff hc ?_
    refine RU.blk (C' := (21, [some (.ref 19), some (.int p0), some (.int p1)], [.int (((gI s1 1217) * p1) + p0), .ref 26], s1)) 8 rfl ?_
    obtain ⟨hv, h⟩ := cnd_n h
    refine RU.iald (N := 36) rfl rfl hv ?_
    refine RU.blk (C' := (27, [some (.ref 19), some (.int p0), some (.int p1)], [.int (gA s1 26 (((gI s1 1217) * p1) + p0).toNatClampNeg)], s1)) 1 rfl ?_
    cases h
    exact RU.ret rfl rfl rfl
noncomputable def L_X5_isBeside  : Nat → Int32 → Int32 → Int32 → Int32 → Int32 → PS → Option (Int32 × PS)
  | 0, _, _, _, _, _, _ => none
  | n + 1, x1, x2, x3, x4, x5, σ => 
    bif cGe x5 (4) then (
      bif okb x4 then some (x4, σ) else none
    ) else (
      bif cNe x4 0 then (
        L_X5_isBeside n  x1 x2 x3 (1) (x5 + (1)) σ
      ) else (
        (F_X5_columnBy x5 σ).bind fun q1 =>
        let v1 := q1.1
        let s1 := q1.2
        (F_X5_rowBy x5 s1).bind fun q2 =>
        let v2 := q2.1
        let s2 := q2.2
        (F_X5_farAt (x1 + v1) (x2 + v2) s2).bind fun q3 =>
        let v3 := q3.1
        let s3 := q3.2
        bif cNe v3 x3 then (
          L_X5_isBeside n  x1 x2 x3 (0) (x5 + (1)) s3
        ) else (
          L_X5_isBeside n  x1 x2 x3 (1) (x5 + (1)) s3
        )
      )
    )
theorem ml_X5_isBeside  (n : Nat) : (∀ (x1 : Int32) (x2 : Int32) (x3 : Int32) (x4 : Int32) (x5 : Int32) (σ : PS) (v : Int32) (σ' : PS), L_X5_isBeside n x1 x2 x3 x4 x5 σ = some (v, σ') → RU ubX5_isBeside 3 69 (6, [some (.ref 19), some (.int x1), some (.int x2), some (.int x3), some (.int x4), some (.int x5)], [], σ) (some (.int v)) σ') := by
  induction n with
  | zero =>
    intro x1 x2 x3 x4 x5 σ v σ' h; exact absurd (show (none : Option (Int32 × PS)) = some (v, σ') from h) (by simp)
  | succ n ih =>
    intro x1 x2 x3 x4 x5 σ v σ' h
    rw [L_X5_isBeside] at h
    refine RU.blk (C' := (bif cGe x5 (4) then 52 else 12, [some (.ref 19), some (.int x1), some (.int x2), some (.int x3), some (.int x4), some (.int x5)], [], σ)) 3 rfl ?_
    rcases cnd_some h with ⟨hc, h⟩ | ⟨hc, h⟩
    · refine RU.tt hc ?_
      refine RU.blk (C' := (54, [some (.ref 19), some (.int x1), some (.int x2), some (.int x3), some (.int x4), some (.int x5)], [.int x4], σ)) 1 rfl ?_
      obtain ⟨hb, h⟩ := cnd_n h
      cases h
      exact RU.ret rfl (pret_b hb) rfl
    · refine RU.ff hc ?_
      refine RU.blk (C' := (bif cNe x4 0 then 39 else 17, [some (.ref 19), some (.int x1), some (.int x2), some (.int x3), some (.int x4), some (.int x5)], [], σ)) 2 rfl ?_
      rcases cnd_some h with ⟨hc, h⟩ | ⟨hc, h⟩
      · refine RU.tt hc ?_
        refine RU.blk (C' := (6, [some (.ref 19), some (.int x1), some (.int x2), some (.int x3), some (.int (1)), some (.int (x5 + (1)))], [], σ)) 5 rfl ?_
        exact ih x1 x2 x3 (1) (x5 + (1)) _ _ _ h
      · refine RU.ff hc ?_
        refine RU.blk (C' := (21, [some (.ref 19), some (.int x1), some (.int x2), some (.int x3), some (.int x4), some (.int x5)], [.int x5, .int x1, .ref 19], σ)) 3 rfl ?_
        obtain ⟨⟨v1, s1⟩, hk, h⟩ := Option.bind_eq_some_iff.mp h
        dsimp only at h
        refine RU.call (as := [.int x5]) (rest := [.int x1, .ref 19]) (u := some (.int v1)) (C' := (24, [some (.ref 19), some (.int x1), some (.int x2), some (.int x3), some (.int x4), some (.int x5)], [.int v1, .int x1, .ref 19], s1)) rfl rfl (m_X5_columnBy x5 σ hk) rfl rfl ?_
        refine RU.blk (C' := (28, [some (.ref 19), some (.int x1), some (.int x2), some (.int x3), some (.int x4), some (.int x5)], [.int x5, .int x2, .int (x1 + v1), .ref 19], s1)) 3 rfl ?_
        obtain ⟨⟨v2, s2⟩, hk, h⟩ := Option.bind_eq_some_iff.mp h
        dsimp only at h
        refine RU.call (as := [.int x5]) (rest := [.int x2, .int (x1 + v1), .ref 19]) (u := some (.int v2)) (C' := (31, [some (.ref 19), some (.int x1), some (.int x2), some (.int x3), some (.int x4), some (.int x5)], [.int v2, .int x2, .int (x1 + v1), .ref 19], s2)) rfl rfl (m_X5_rowBy x5 s1 hk) rfl rfl ?_
        refine RU.blk (C' := (32, [some (.ref 19), some (.int x1), some (.int x2), some (.int x3), some (.int x4), some (.int x5)], [.int (x2 + v2), .int (x1 + v1), .ref 19], s2)) 1 rfl ?_
        obtain ⟨⟨v3, s3⟩, hk, h⟩ := Option.bind_eq_some_iff.mp h
        dsimp only at h
        refine RU.call (as := [.ref 19, .int (x1 + v1), .int (x2 + v2)]) (rest := []) (u := some (.int v3)) (C' := (35, [some (.ref 19), some (.int x1), some (.int x2), some (.int x3), some (.int x4), some (.int x5)], [.int v3], s3)) rfl rfl (m_X5_farAt (x1 + v1) (x2 + v2) s2 hk) rfl rfl ?_
        refine RU.blk (C' := (bif cNe v3 x3 then 43 else 39, [some (.ref 19), some (.int x1), some (.int x2), some (.int x3), some (.int x4), some (.int x5)], [], s3)) 2 rfl ?_
        rcases cnd_some h with ⟨hc, h⟩ | ⟨hc, h⟩
        · refine RU.tt hc ?_
          refine RU.blk (C' := (6, [some (.ref 19), some (.int x1), some (.int x2), some (.int x3), some (.int (0)), some (.int (x5 + (1)))], [], s3)) 4 rfl ?_
          exact ih x1 x2 x3 (0) (x5 + (1)) _ _ _ h
        · refine RU.ff hc ?_
          refine RU.blk (C' := (6, [some (.ref 19), some (.int x1), some (.int x2), some (.int x3), some (.int (1)), some (.int (x5 + (1)))], [], s3)) 5 rfl ?_
          exact ih x1 x2 x3 (1) (x5 + (1)) _ _ _ h
noncomputable def F_X5_isBeside (p0 : Int32) (p1 : Int32) (p2 : Int32) (σ : PS) : Option (Int32 × PS) :=
  L_X5_isBeside fuelN  p0 p1 p2 (0) (0) σ
theorem m_X5_isBeside (p0 : Int32) (p1 : Int32) (p2 : Int32) (σ : PS) {v : Int32} {σ' : PS} (h : F_X5_isBeside p0 p1 p2 σ = some (v, σ')) : PR 160 [.ref 19, .int p0, .int p1, .int p2] σ (some (.int v)) σ' := by
  refine PR.enter (L := [some (.ref 19), some (.int p0), some (.int p1), some (.int p2), none, none]) uT_160 uD_160 rfl rfl ?_
  unfold F_X5_isBeside at h
  refine RU.blk (C' := (6, [some (.ref 19), some (.int p0), some (.int p1), some (.int p2), some (.int (0)), some (.int (0))], [], σ)) 4 rfl ?_
  exact (ml_X5_isBeside fuelN) p0 p1 p2 (0) (0) _ _ _ h
noncomputable def L_X5_measures  : Nat → Nat → Int32 → Int32 → Int32 → Int32 → PS → Option (Unit × PS)
  | 0, _, _, _, _, _, _ => none
  | n + 1, hd, x1, x2, x3, x4, σ => 
    bif Nat.beq hd 2 then (
      bif cGe x2 (36) then (
        some ((), σ)
      ) else (
        L_X5_measures n  10 x1 x2 (0) 0 σ
      )
    ) else
    bif Nat.beq hd 10 then (
      bif cGe x3 (gI σ 1218) then (
        L_X5_measures n  2 x1 (x2 + (1)) 0 0 σ
      ) else (
        L_X5_measures n  21 x1 x2 x3 (0) σ
      )
    ) else
    bif Nat.beq hd 21 then (
      bif cGt x4 ((gI σ 1217) - (gI σ 1219)) then (
        L_X5_measures n  10 x1 x2 (x3 + (1)) 0 σ
      ) else (
        bif cNe x2 0 then (
          bif vin (((gI σ 1217) * x3) + x4) 36 then
          bif cGe (gA σ 26 (((gI σ 1217) * x3) + x4).toNatClampNeg) 0 then (
            L_X5_measures n  21 x1 x2 x3 (x4 + (1)) σ
          ) else (
            (F_X5_isBeside x4 x3 (x2 - (1)) σ).bind fun q1 =>
            let v1 := q1.1
            let s1 := q1.2
            bif cEq v1 0 then (
              L_X5_measures n  21 x1 x2 x3 (x4 + (1)) s1
            ) else (
              bif vin (((gI σ 1217) * x3) + x4) 36 then
              L_X5_measures n  21 x1 x2 x3 (x4 + (1)) (sA s1 26 (((gI σ 1217) * x3) + x4).toNatClampNeg x2)
              else none
            )
          )
          else none
        ) else (
          (F_X5_isOver x4 x3 x1 σ).bind fun q2 =>
          let v2 := q2.1
          let s2 := q2.2
          bif cEq v2 0 then (
            bif vin (((gI σ 1217) * x3) + x4) 36 then
            L_X5_measures n  21 x1 x2 x3 (x4 + (1)) (sA s2 26 (((gI σ 1217) * x3) + x4).toNatClampNeg (-9))
            else none
          ) else (
            bif vin (((gI σ 1217) * x3) + x4) 36 then
            L_X5_measures n  21 x1 x2 x3 (x4 + (1)) (sA s2 26 (((gI σ 1217) * x3) + x4).toNatClampNeg (0))
            else none
          )
        )
      )
    ) else
    none
theorem ml_X5_measures  (n : Nat) : (∀ (x1 : Int32) (x2 : Int32) (u3 : Option Value) (u4 : Option Value) (u5 : Option Value) (σ : PS) (v : Unit) (σ' : PS), L_X5_measures n 2 x1 x2 0 0 σ = some (v, σ') → RU ubX5_measures 4 94 (2, [some (.ref 19), some (.int x1), some (.int x2), u3, u4, u5], [], σ) (none) σ') ∧ (∀ (x1 : Int32) (x2 : Int32) (x3 : Int32) (u4 : Option Value) (u5 : Option Value) (σ : PS) (v : Unit) (σ' : PS), L_X5_measures n 10 x1 x2 x3 0 σ = some (v, σ') → RU ubX5_measures 4 94 (10, [some (.ref 19), some (.int x1), some (.int x2), some (.int x3), u4, u5], [], σ) (none) σ') ∧ (∀ (x1 : Int32) (x2 : Int32) (x3 : Int32) (x4 : Int32) (u5 : Option Value) (σ : PS) (v : Unit) (σ' : PS), L_X5_measures n 21 x1 x2 x3 x4 σ = some (v, σ') → RU ubX5_measures 4 94 (21, [some (.ref 19), some (.int x1), some (.int x2), some (.int x3), some (.int x4), u5], [], σ) (none) σ') := by
  induction n with
  | zero =>
    refine ⟨?_, ?_, ?_⟩
    · intro x1 x2 u3 u4 u5 σ v σ' h; exact absurd (show (none : Option (Unit × PS)) = some (v, σ') from h) (by simp)
    · intro x1 x2 x3 u4 u5 σ v σ' h; exact absurd (show (none : Option (Unit × PS)) = some (v, σ') from h) (by simp)
    · intro x1 x2 x3 x4 u5 σ v σ' h; exact absurd (show (none : Option (Unit × PS)) = some (v, σ') from h) (by simp)
  | succ n ih =>
    refine ⟨?_, ?_, ?_⟩
    · intro x1 x2 u3 u4 u5 σ v σ' h
      rw [L_X5_measures] at h
      rcases cnd_some h with ⟨hc, h⟩ | ⟨hc, h⟩
      rotate_left
      · exact absurd hc (by decide)
      refine RU.blk (C' := (bif cGe x2 (36) then 126 else 8, [some (.ref 19), some (.int x1), some (.int x2), none, none, none], [], σ)) 3 rfl ?_
      rcases cnd_some h with ⟨hc, h⟩ | ⟨hc, h⟩
      · refine RU.tt hc ?_
        cases h
        exact RU.ret rfl rfl rfl
      · refine RU.ff hc ?_
        refine RU.blk (C' := (10, [some (.ref 19), some (.int x1), some (.int x2), some (.int (0)), none, none], [], σ)) 2 rfl ?_
        exact ih.2.1 x1 x2 (0) none none _ _ _ h
    · intro x1 x2 x3 u4 u5 σ v σ' h
      rw [L_X5_measures] at h
      rcases cnd_some h with ⟨hc, h⟩ | ⟨hc, h⟩
      · exact absurd hc (by decide)
      rcases cnd_some h with ⟨hc, h⟩ | ⟨hc, h⟩
      rotate_left
      · exact absurd hc (by decide)
      refine RU.blk (C' := (bif cGe x3 (gI σ 1218) then 120 else 18, [some (.ref 19), some (.int x1), some (.int x2), some (.int x3), none, none], [], σ)) 4 rfl ?_
      rcases cnd_some h with ⟨hc, h⟩ | ⟨hc, h⟩
      · refine RU.tt hc ?_
        refine RU.blk (C' := (2, [some (.ref 19), some (.int x1), some (.int (x2 + (1))), some (.int x3), none, none], [], σ)) 2 rfl ?_
        exact ih.1 x1 (x2 + (1)) (some (.int x3)) none none _ _ _ h
      · refine RU.ff hc ?_
        refine RU.blk (C' := (21, [some (.ref 19), some (.int x1), some (.int x2), some (.int x3), some (.int (0)), none], [], σ)) 2 rfl ?_
        exact ih.2.2 x1 x2 x3 (0) none _ _ _ h
    · intro x1 x2 x3 x4 u5 σ v σ' h
      rw [L_X5_measures] at h
      rcases cnd_some h with ⟨hc, h⟩ | ⟨hc, h⟩
      · exact absurd hc (by decide)
      rcases cnd_some h with ⟨hc, h⟩ | ⟨hc, h⟩
      · exact absurd hc (by decide)
      rcases cnd_some h with ⟨hc, h⟩ | ⟨hc, h⟩
      rotate_left
      · exact absurd hc (by decide)
      refine RU.blk (C' := (bif cGt x4 ((gI σ 1217) - (gI σ 1219)) then 114 else 35, [some (.ref 19), some (.int x1), some (.int x2), some (.int x3), some (.int x4), none], [], σ)) 7 rfl ?_
      rcases cnd_some h with ⟨hc, h⟩ | ⟨hc, h⟩
      · refine RU.tt hc ?_
        refine RU.blk (C' := (10, [some (.ref 19), some (.int x1), some (.int x2), some (.int (x3 + (1))), some (.int x4), none], [], σ)) 2 rfl ?_
        exact ih.2.1 x1 x2 (x3 + (1)) (some (.int x4)) none _ _ _ h
      · refine RU.ff hc ?_
        refine RU.blk (C' := (bif cNe x2 0 then 77 else 50, [some (.ref 19), some (.int x1), some (.int x2), some (.int x3), some (.int x4), some (.int (((gI σ 1217) * x3) + x4))], [], σ)) 9 rfl ?_
        rcases cnd_some h with ⟨hc, h⟩ | ⟨hc, h⟩
        · refine RU.tt hc ?_
          refine RU.blk (C' := (83, [some (.ref 19), some (.int x1), some (.int x2), some (.int x3), some (.int x4), some (.int (((gI σ 1217) * x3) + x4))], [.int (((gI σ 1217) * x3) + x4), .ref 26], σ)) 3 rfl ?_
          obtain ⟨hv, h⟩ := cnd_n h
          refine RU.iald (N := 36) rfl rfl hv ?_
          refine RU.blk (C' := (bif cGe (gA σ 26 (((gI σ 1217) * x3) + x4).toNatClampNeg) 0 then 108 else 87, [some (.ref 19), some (.int x1), some (.int x2), some (.int x3), some (.int x4), some (.int (((gI σ 1217) * x3) + x4))], [], σ)) 1 rfl ?_
          rcases cnd_some h with ⟨hc, h⟩ | ⟨hc, h⟩
          · refine RU.tt hc ?_
            refine RU.blk (C' := (21, [some (.ref 19), some (.int x1), some (.int x2), some (.int x3), some (.int (x4 + (1))), some (.int (((gI σ 1217) * x3) + x4))], [], σ)) 2 rfl ?_
            exact ih.2.2 x1 x2 x3 (x4 + (1)) (some (.int (((gI σ 1217) * x3) + x4))) _ _ _ h
          · refine RU.ff hc ?_
            refine RU.blk (C' := (94, [some (.ref 19), some (.int x1), some (.int x2), some (.int x3), some (.int x4), some (.int (((gI σ 1217) * x3) + x4))], [.int (x2 - (1)), .int x3, .int x4, .ref 19], σ)) 6 rfl ?_
            obtain ⟨⟨v1, s1⟩, hk, h⟩ := Option.bind_eq_some_iff.mp h
            dsimp only at h
            refine RU.call (as := [.ref 19, .int x4, .int x3, .int (x2 - (1))]) (rest := []) (u := some (.int v1)) (C' := (97, [some (.ref 19), some (.int x1), some (.int x2), some (.int x3), some (.int x4), some (.int (((gI σ 1217) * x3) + x4))], [.int v1], s1)) rfl rfl (m_X5_isBeside x4 x3 (x2 - (1)) σ hk) rfl rfl ?_
            refine RU.blk (C' := (bif cEq v1 0 then 108 else 100, [some (.ref 19), some (.int x1), some (.int x2), some (.int x3), some (.int x4), some (.int (((gI σ 1217) * x3) + x4))], [], s1)) 1 rfl ?_
            rcases cnd_some h with ⟨hc, h⟩ | ⟨hc, h⟩
            · refine RU.tt hc ?_
              refine RU.blk (C' := (21, [some (.ref 19), some (.int x1), some (.int x2), some (.int x3), some (.int (x4 + (1))), some (.int (((gI σ 1217) * x3) + x4))], [], s1)) 2 rfl ?_
              exact ih.2.2 x1 x2 x3 (x4 + (1)) (some (.int (((gI σ 1217) * x3) + x4))) _ _ _ h
            · refine RU.ff hc ?_
              refine RU.blk (C' := (107, [some (.ref 19), some (.int x1), some (.int x2), some (.int x3), some (.int x4), some (.int (((gI σ 1217) * x3) + x4))], [.int x2, .int (((gI σ 1217) * x3) + x4), .ref 26], s1)) 4 rfl ?_
              obtain ⟨hv, h⟩ := cnd_n h
              refine RU.iast (N := 36) rfl rfl hv ?_
              refine RU.blk (C' := (21, [some (.ref 19), some (.int x1), some (.int x2), some (.int x3), some (.int (x4 + (1))), some (.int (((gI σ 1217) * x3) + x4))], [], (sA s1 26 (((gI σ 1217) * x3) + x4).toNatClampNeg x2))) 2 rfl ?_
              exact ih.2.2 x1 x2 x3 (x4 + (1)) (some (.int (((gI σ 1217) * x3) + x4))) _ _ _ h
        · refine RU.ff hc ?_
          refine RU.blk (C' := (61, [some (.ref 19), some (.int x1), some (.int x2), some (.int x3), some (.int x4), some (.int (((gI σ 1217) * x3) + x4))], [.int x1, .int x3, .int x4, .ref 19, .int (((gI σ 1217) * x3) + x4), .ref 26], σ)) 7 rfl ?_
          obtain ⟨⟨v2, s2⟩, hk, h⟩ := Option.bind_eq_some_iff.mp h
          dsimp only at h
          refine RU.call (as := [.ref 19, .int x4, .int x3, .int x1]) (rest := [.int (((gI σ 1217) * x3) + x4), .ref 26]) (u := some (.int v2)) (C' := (64, [some (.ref 19), some (.int x1), some (.int x2), some (.int x3), some (.int x4), some (.int (((gI σ 1217) * x3) + x4))], [.int v2, .int (((gI σ 1217) * x3) + x4), .ref 26], s2)) rfl rfl (m_X5_isOver x4 x3 x1 σ hk) rfl rfl ?_
          refine RU.blk (C' := (bif cEq v2 0 then 71 else 67, [some (.ref 19), some (.int x1), some (.int x2), some (.int x3), some (.int x4), some (.int (((gI σ 1217) * x3) + x4))], [.int (((gI σ 1217) * x3) + x4), .ref 26], s2)) 1 rfl ?_
          rcases cnd_some h with ⟨hc, h⟩ | ⟨hc, h⟩
          · refine RU.tt hc ?_
            refine RU.blk (C' := (73, [some (.ref 19), some (.int x1), some (.int x2), some (.int x3), some (.int x4), some (.int (((gI σ 1217) * x3) + x4))], [.int (-9), .int (((gI σ 1217) * x3) + x4), .ref 26], s2)) 1 rfl ?_
            obtain ⟨hv, h⟩ := cnd_n h
            refine RU.iast (N := 36) rfl rfl hv ?_
            refine RU.blk (C' := (21, [some (.ref 19), some (.int x1), some (.int x2), some (.int x3), some (.int (x4 + (1))), some (.int (((gI σ 1217) * x3) + x4))], [], (sA s2 26 (((gI σ 1217) * x3) + x4).toNatClampNeg (-9)))) 3 rfl ?_
            exact ih.2.2 x1 x2 x3 (x4 + (1)) (some (.int (((gI σ 1217) * x3) + x4))) _ _ _ h
          · refine RU.ff hc ?_
            refine RU.blk (C' := (73, [some (.ref 19), some (.int x1), some (.int x2), some (.int x3), some (.int x4), some (.int (((gI σ 1217) * x3) + x4))], [.int (0), .int (((gI σ 1217) * x3) + x4), .ref 26], s2)) 2 rfl ?_
            obtain ⟨hv, h⟩ := cnd_n h
            refine RU.iast (N := 36) rfl rfl hv ?_
            refine RU.blk (C' := (21, [some (.ref 19), some (.int x1), some (.int x2), some (.int x3), some (.int (x4 + (1))), some (.int (((gI σ 1217) * x3) + x4))], [], (sA s2 26 (((gI σ 1217) * x3) + x4).toNatClampNeg (0)))) 3 rfl ?_
            exact ih.2.2 x1 x2 x3 (x4 + (1)) (some (.int (((gI σ 1217) * x3) + x4))) _ _ _ h
noncomputable def F_X5_measures (p0 : Int32) (σ : PS) : Option (Unit × PS) :=
  L_X5_measures fuelN  2 p0 (0) 0 0 σ
theorem m_X5_measures (p0 : Int32) (σ : PS) {v : Unit} {σ' : PS} (h : F_X5_measures p0 σ = some (v, σ')) : PR 161 [.ref 19, .int p0] σ (none) σ' := by
  refine PR.enter (L := [some (.ref 19), some (.int p0), none, none, none, none]) uT_161 uD_161 rfl rfl ?_
  unfold F_X5_measures at h
  refine RU.blk (C' := (2, [some (.ref 19), some (.int p0), some (.int (0)), none, none, none], [], σ)) 2 rfl ?_
  exact (ml_X5_measures fuelN).1 p0 (0) none none none _ _ _ h
noncomputable def L_X5_wayStep  : Nat → Nat → Int32 → Int32 → Int32 → Int32 → Int32 → Int32 → Int32 → PS → Option (Int32 × PS)
  | 0, _, _, _, _, _, _, _, _, _ => none
  | n + 1, hd, x1, x2, x3, x4, x5, x6, x7, σ => 
    bif Nat.beq hd 17 then (
      bif cGt x5 x1 then (
        some (x4, σ)
      ) else (
        (F_X5_farAt x2 x3 σ).bind fun q1 =>
        let v1 := q1.1
        let s1 := q1.2
        L_X5_wayStep n  38 x1 x2 x3 (-9) x5 v1 (3) s1
      )
    ) else
    bif Nat.beq hd 38 then (
      bif cLt x7 0 then (
        (F_X5_columnBy x4 σ).bind fun q2 =>
        let v2 := q2.1
        let s2 := q2.2
        (F_X5_rowBy x4 s2).bind fun q3 =>
        let v3 := q3.1
        let s3 := q3.2
        L_X5_wayStep n  17 x1 (x2 + v2) (x3 + v3) x4 (x5 + (1)) 0 0 s3
      ) else (
        (F_X5_columnBy x7 σ).bind fun q4 =>
        let v4 := q4.1
        let s4 := q4.2
        (F_X5_rowBy x7 s4).bind fun q5 =>
        let v5 := q5.1
        let s5 := q5.2
        (F_X5_farAt (x2 + v4) (x3 + v5) s5).bind fun q6 =>
        let v6 := q6.1
        let s6 := q6.2
        bif cNe v6 (x6 - (1)) then (
          L_X5_wayStep n  38 x1 x2 x3 x4 x5 x6 (x7 + (-1)) s6
        ) else (
          L_X5_wayStep n  38 x1 x2 x3 x7 x5 x6 (x7 + (-1)) s6
        )
      )
    ) else
    none
theorem ml_X5_wayStep  (n : Nat) : (∀ (x1 : Int32) (x2 : Int32) (x3 : Int32) (x4 : Int32) (x5 : Int32) (u6 : Option Value) (u7 : Option Value) (σ : PS) (v : Int32) (σ' : PS), L_X5_wayStep n 17 x1 x2 x3 x4 x5 0 0 σ = some (v, σ') → RU ubX5_wayStep 3 69 (17, [some (.ref 19), some (.int x1), some (.int x2), some (.int x3), some (.int x4), some (.int x5), u6, u7], [], σ) (some (.int v)) σ') ∧ (∀ (x1 : Int32) (x2 : Int32) (x3 : Int32) (x4 : Int32) (x5 : Int32) (x6 : Int32) (x7 : Int32) (σ : PS) (v : Int32) (σ' : PS), L_X5_wayStep n 38 x1 x2 x3 x4 x5 x6 x7 σ = some (v, σ') → RU ubX5_wayStep 3 69 (38, [some (.ref 19), some (.int x1), some (.int x2), some (.int x3), some (.int x4), some (.int x5), some (.int x6), some (.int x7)], [], σ) (some (.int v)) σ') := by
  induction n with
  | zero =>
    refine ⟨?_, ?_⟩
    · intro x1 x2 x3 x4 x5 u6 u7 σ v σ' h; exact absurd (show (none : Option (Int32 × PS)) = some (v, σ') from h) (by simp)
    · intro x1 x2 x3 x4 x5 x6 x7 σ v σ' h; exact absurd (show (none : Option (Int32 × PS)) = some (v, σ') from h) (by simp)
  | succ n ih =>
    refine ⟨?_, ?_⟩
    · intro x1 x2 x3 x4 x5 u6 u7 σ v σ' h
      rw [L_X5_wayStep] at h
      rcases cnd_some h with ⟨hc, h⟩ | ⟨hc, h⟩
      rotate_left
      · exact absurd hc (by decide)
      refine RU.blk (C' := (bif cGt x5 x1 then 105 else 23, [some (.ref 19), some (.int x1), some (.int x2), some (.int x3), some (.int x4), some (.int x5), none, none], [], σ)) 3 rfl ?_
      rcases cnd_some h with ⟨hc, h⟩ | ⟨hc, h⟩
      · refine RU.tt hc ?_
        refine RU.blk (C' := (107, [some (.ref 19), some (.int x1), some (.int x2), some (.int x3), some (.int x4), some (.int x5), none, none], [.int x4], σ)) 1 rfl ?_
        cases h
        exact RU.ret rfl rfl rfl
      · refine RU.ff hc ?_
        refine RU.blk (C' := (26, [some (.ref 19), some (.int x1), some (.int x2), some (.int x3), some (.int x4), some (.int x5), none, none], [.int x3, .int x2, .ref 19], σ)) 3 rfl ?_
        obtain ⟨⟨v1, s1⟩, hk, h⟩ := Option.bind_eq_some_iff.mp h
        dsimp only at h
        refine RU.call (as := [.ref 19, .int x2, .int x3]) (rest := []) (u := some (.int v1)) (C' := (29, [some (.ref 19), some (.int x1), some (.int x2), some (.int x3), some (.int x4), some (.int x5), none, none], [.int v1], s1)) rfl rfl (m_X5_farAt x2 x3 σ hk) rfl rfl ?_
        refine RU.blk (C' := (38, [some (.ref 19), some (.int x1), some (.int x2), some (.int x3), some (.int (-9)), some (.int x5), some (.int v1), some (.int (3))], [], s1)) 5 rfl ?_
        exact ih.2 x1 x2 x3 (-9) x5 v1 (3) _ _ _ h
    · intro x1 x2 x3 x4 x5 x6 x7 σ v σ' h
      rw [L_X5_wayStep] at h
      rcases cnd_some h with ⟨hc, h⟩ | ⟨hc, h⟩
      · exact absurd hc (by decide)
      rcases cnd_some h with ⟨hc, h⟩ | ⟨hc, h⟩
      rotate_left
      · exact absurd hc (by decide)
      refine RU.blk (C' := (bif cLt x7 0 then 83 else 43, [some (.ref 19), some (.int x1), some (.int x2), some (.int x3), some (.int x4), some (.int x5), some (.int x6), some (.int x7)], [], σ)) 2 rfl ?_
      rcases cnd_some h with ⟨hc, h⟩ | ⟨hc, h⟩
      · refine RU.tt hc ?_
        refine RU.blk (C' := (86, [some (.ref 19), some (.int x1), some (.int x2), some (.int x3), some (.int x4), some (.int x5), some (.int x6), some (.int x7)], [.int x4, .int x2], σ)) 2 rfl ?_
        obtain ⟨⟨v2, s2⟩, hk, h⟩ := Option.bind_eq_some_iff.mp h
        dsimp only at h
        refine RU.call (as := [.int x4]) (rest := [.int x2]) (u := some (.int v2)) (C' := (89, [some (.ref 19), some (.int x1), some (.int x2), some (.int x3), some (.int x4), some (.int x5), some (.int x6), some (.int x7)], [.int v2, .int x2], s2)) rfl rfl (m_X5_columnBy x4 σ hk) rfl rfl ?_
        refine RU.blk (C' := (94, [some (.ref 19), some (.int x1), some (.int (x2 + v2)), some (.int x3), some (.int x4), some (.int x5), some (.int x6), some (.int x7)], [.int x4, .int x3], s2)) 4 rfl ?_
        obtain ⟨⟨v3, s3⟩, hk, h⟩ := Option.bind_eq_some_iff.mp h
        dsimp only at h
        refine RU.call (as := [.int x4]) (rest := [.int x3]) (u := some (.int v3)) (C' := (97, [some (.ref 19), some (.int x1), some (.int (x2 + v2)), some (.int x3), some (.int x4), some (.int x5), some (.int x6), some (.int x7)], [.int v3, .int x3], s3)) rfl rfl (m_X5_rowBy x4 s2 hk) rfl rfl ?_
        refine RU.blk (C' := (17, [some (.ref 19), some (.int x1), some (.int (x2 + v2)), some (.int (x3 + v3)), some (.int x4), some (.int (x5 + (1))), some (.int x6), some (.int x7)], [], s3)) 4 rfl ?_
        exact ih.1 x1 (x2 + v2) (x3 + v3) x4 (x5 + (1)) (some (.int x6)) (some (.int x7)) _ _ _ h
      · refine RU.ff hc ?_
        refine RU.blk (C' := (47, [some (.ref 19), some (.int x1), some (.int x2), some (.int x3), some (.int x4), some (.int x5), some (.int x6), some (.int x7)], [.int x7, .int x2, .ref 19], σ)) 3 rfl ?_
        obtain ⟨⟨v4, s4⟩, hk, h⟩ := Option.bind_eq_some_iff.mp h
        dsimp only at h
        refine RU.call (as := [.int x7]) (rest := [.int x2, .ref 19]) (u := some (.int v4)) (C' := (50, [some (.ref 19), some (.int x1), some (.int x2), some (.int x3), some (.int x4), some (.int x5), some (.int x6), some (.int x7)], [.int v4, .int x2, .ref 19], s4)) rfl rfl (m_X5_columnBy x7 σ hk) rfl rfl ?_
        refine RU.blk (C' := (54, [some (.ref 19), some (.int x1), some (.int x2), some (.int x3), some (.int x4), some (.int x5), some (.int x6), some (.int x7)], [.int x7, .int x3, .int (x2 + v4), .ref 19], s4)) 3 rfl ?_
        obtain ⟨⟨v5, s5⟩, hk, h⟩ := Option.bind_eq_some_iff.mp h
        dsimp only at h
        refine RU.call (as := [.int x7]) (rest := [.int x3, .int (x2 + v4), .ref 19]) (u := some (.int v5)) (C' := (57, [some (.ref 19), some (.int x1), some (.int x2), some (.int x3), some (.int x4), some (.int x5), some (.int x6), some (.int x7)], [.int v5, .int x3, .int (x2 + v4), .ref 19], s5)) rfl rfl (m_X5_rowBy x7 s4 hk) rfl rfl ?_
        refine RU.blk (C' := (58, [some (.ref 19), some (.int x1), some (.int x2), some (.int x3), some (.int x4), some (.int x5), some (.int x6), some (.int x7)], [.int (x3 + v5), .int (x2 + v4), .ref 19], s5)) 1 rfl ?_
        obtain ⟨⟨v6, s6⟩, hk, h⟩ := Option.bind_eq_some_iff.mp h
        dsimp only at h
        refine RU.call (as := [.ref 19, .int (x2 + v4), .int (x3 + v5)]) (rest := []) (u := some (.int v6)) (C' := (61, [some (.ref 19), some (.int x1), some (.int x2), some (.int x3), some (.int x4), some (.int x5), some (.int x6), some (.int x7)], [.int v6], s6)) rfl rfl (m_X5_farAt (x2 + v4) (x3 + v5) s5 hk) rfl rfl ?_
        refine RU.blk (C' := (bif cNe v6 (x6 - (1)) then 73 else 68, [some (.ref 19), some (.int x1), some (.int x2), some (.int x3), some (.int x4), some (.int x5), some (.int x6), some (.int x7)], [], s6)) 4 rfl ?_
        rcases cnd_some h with ⟨hc, h⟩ | ⟨hc, h⟩
        · refine RU.tt hc ?_
          refine RU.blk (C' := (38, [some (.ref 19), some (.int x1), some (.int x2), some (.int x3), some (.int x4), some (.int x5), some (.int x6), some (.int (x7 + (-1)))], [], s6)) 4 rfl ?_
          exact ih.2 x1 x2 x3 x4 x5 x6 (x7 + (-1)) _ _ _ h
        · refine RU.ff hc ?_
          refine RU.blk (C' := (38, [some (.ref 19), some (.int x1), some (.int x2), some (.int x3), some (.int x7), some (.int x5), some (.int x6), some (.int (x7 + (-1)))], [], s6)) 5 rfl ?_
          exact ih.2 x1 x2 x3 x7 x5 x6 (x7 + (-1)) _ _ _ h
noncomputable def F_X5_wayStep (p0 : Int32) (σ : PS) : Option (Int32 × PS) :=
  L_X5_wayStep fuelN  17 p0 (gI σ 1220) (gI σ 1221) (-9) (0) 0 0 σ
theorem m_X5_wayStep (p0 : Int32) (σ : PS) {v : Int32} {σ' : PS} (h : F_X5_wayStep p0 σ = some (v, σ')) : PR 162 [.ref 19, .int p0] σ (some (.int v)) σ' := by
  refine PR.enter (L := [some (.ref 19), some (.int p0), none, none, none, none, none, none]) uT_162 uD_162 rfl rfl ?_
  unfold F_X5_wayStep at h
  refine RU.blk (C' := (17, [some (.ref 19), some (.int p0), some (.int (gI σ 1220)), some (.int (gI σ 1221)), some (.int (-9)), some (.int (0)), none, none], [], σ)) 10 rfl ?_
  exact (ml_X5_wayStep fuelN).1 p0 (gI σ 1220) (gI σ 1221) (-9) (0) none none _ _ _ h
