noncomputable def F_X5_greet (p0 : Int32) (σ : PS) : Option (Int32 × PS) :=
  (F_X5_noLooker p0 σ).bind fun q1 =>
  let v1 := q1.1
  let s1 := q1.2
  bif cEq v1 0 then (
    bif vin p0 4 then
    bif cNe (gA s1 21 (Int32.toNatClampNeg p0)) (2) then (
      (F_X5_traced (4) s1).bind fun q2 =>
      let s2 := q2.2
      bif vin p0 4 then
      bif cNe (gA s2 21 (Int32.toNatClampNeg p0)) (2) then (
        some (p0, s2)
      ) else (
        some ((90), s2)
      )
      else none
    ) else (
      (F_X5_traced (5) s1).bind fun q3 =>
      let s3 := q3.2
      bif vin p0 4 then
      bif cNe (gA s3 21 (Int32.toNatClampNeg p0)) (2) then (
        some (p0, s3)
      ) else (
        some ((90), s3)
      )
      else none
    )
    else none
  ) else (
    some ((-1), s1)
  )
set_option maxRecDepth 50000 in
theorem m_X5_greet (p0 : Int32) (σ : PS) {v : Int32} {σ' : PS} (h : F_X5_greet p0 σ = some (v, σ')) : PR 189 [.ref 19, .int p0] σ (some (.int v)) σ' := by
  refine PR.enter (L := [some (.ref 19), some (.int p0)]) uT_189 uD_189 rfl rfl ?_
  unfold F_X5_greet at h
  refine RU.blk (C' := (2, [some (.ref 19), some (.int p0)], [.int p0, .ref 19], σ)) 2 rfl ?_
  obtain ⟨⟨v1, s1⟩, hk, h⟩ := Option.bind_eq_some_iff.mp h
  dsimp only at h
  refine RU.call (as := [.ref 19, .int p0]) (rest := []) (u := some (.int v1)) (C' := (5, [some (.ref 19), some (.int p0)], [.int v1], s1)) rfl rfl (m_X5_noLooker p0 σ hk) rfl rfl ?_
  refine RU.blk (C' := (bif cEq v1 0 then 10 else 8, [some (.ref 19), some (.int p0)], [], s1)) 1 rfl ?_
  rcases cnd_some h with ⟨hc, h⟩ | ⟨hc, h⟩
  · refine RU.tt hc ?_
    refine RU.blk (C' := (16, [some (.ref 19), some (.int p0)], [.int p0, .ref 21, .ref 19], s1)) 4 rfl ?_
    obtain ⟨hv, h⟩ := cnd_n h
    refine RU.iald (N := 4) rfl rfl hv ?_
    refine RU.blk (C' := (bif cNe (gA s1 21 (Int32.toNatClampNeg p0)) (2) then 25 else 21, [some (.ref 19), some (.int p0)], [.ref 19], s1)) 2 rfl ?_
    rcases cnd_some h with ⟨hc, h⟩ | ⟨hc, h⟩
    · refine RU.tt hc ?_
      refine RU.blk (C' := (26, [some (.ref 19), some (.int p0)], [.int (4), .ref 19], s1)) 1 rfl ?_
      obtain ⟨⟨v2, s2⟩, hk, h⟩ := Option.bind_eq_some_iff.mp h
      dsimp only at h
      refine RU.call (as := [.ref 19, .int (4)]) (rest := []) (u := none) (C' := (29, [some (.ref 19), some (.int p0)], [], s2)) rfl rfl (m_X5_traced (4) s1 hk) rfl rfl ?_
      refine RU.blk (C' := (34, [some (.ref 19), some (.int p0)], [.int p0, .ref 21], s2)) 3 rfl ?_
      obtain ⟨hv, h⟩ := cnd_n h
      refine RU.iald (N := 4) rfl rfl hv ?_
      refine RU.blk (C' := (bif cNe (gA s2 21 (Int32.toNatClampNeg p0)) (2) then 44 else 39, [some (.ref 19), some (.int p0)], [], s2)) 2 rfl ?_
      rcases cnd_some h with ⟨hc, h⟩ | ⟨hc, h⟩
      · refine RU.tt hc ?_
        refine RU.blk (C' := (45, [some (.ref 19), some (.int p0)], [.int p0], s2)) 1 rfl ?_
        obtain ⟨rfl, rfl⟩ := ret_inj h
        exact RU.ret rfl rfl rfl
      · refine RU.ff hc ?_
        refine RU.blk (C' := (45, [some (.ref 19), some (.int p0)], [.int (90)], s2)) 2 rfl ?_
        obtain ⟨rfl, rfl⟩ := ret_inj h
        exact RU.ret rfl rfl rfl
    · refine RU.ff hc ?_
      refine RU.blk (C' := (26, [some (.ref 19), some (.int p0)], [.int (5), .ref 19], s1)) 2 rfl ?_
      obtain ⟨⟨v3, s3⟩, hk, h⟩ := Option.bind_eq_some_iff.mp h
      dsimp only at h
      refine RU.call (as := [.ref 19, .int (5)]) (rest := []) (u := none) (C' := (29, [some (.ref 19), some (.int p0)], [], s3)) rfl rfl (m_X5_traced (5) s1 hk) rfl rfl ?_
      refine RU.blk (C' := (34, [some (.ref 19), some (.int p0)], [.int p0, .ref 21], s3)) 3 rfl ?_
      obtain ⟨hv, h⟩ := cnd_n h
      refine RU.iald (N := 4) rfl rfl hv ?_
      refine RU.blk (C' := (bif cNe (gA s3 21 (Int32.toNatClampNeg p0)) (2) then 44 else 39, [some (.ref 19), some (.int p0)], [], s3)) 2 rfl ?_
      rcases cnd_some h with ⟨hc, h⟩ | ⟨hc, h⟩
      · refine RU.tt hc ?_
        refine RU.blk (C' := (45, [some (.ref 19), some (.int p0)], [.int p0], s3)) 1 rfl ?_
        obtain ⟨rfl, rfl⟩ := ret_inj h
        exact RU.ret rfl rfl rfl
      · refine RU.ff hc ?_
        refine RU.blk (C' := (45, [some (.ref 19), some (.int p0)], [.int (90)], s3)) 2 rfl ?_
        obtain ⟨rfl, rfl⟩ := ret_inj h
        exact RU.ret rfl rfl rfl
  · refine RU.ff hc ?_
    refine RU.blk (C' := (9, [some (.ref 19), some (.int p0)], [.int (-1)], s1)) 1 rfl ?_
    obtain ⟨rfl, rfl⟩ := ret_inj h
    exact RU.ret rfl rfl rfl
noncomputable def F_X5_as (p0 : Int32) (p1 : Int32) (σ : PS) : Option (Int32 × PS) :=
  (F_X5_noLooker p0 σ).bind fun q1 =>
  let v1 := q1.1
  let s1 := q1.2
  bif cEq v1 0 then (
    (F_X5_in (Int32.toInt64 p1) 0 (2) s1).bind fun q2 =>
    let v2 := q2.1
    let s2 := q2.2
    bif cNe v2 0 then (
      bif vin p0 4 then
      bif cLt (gA s2 21 (Int32.toNatClampNeg p0)) p1 then (
        (F_X5_failed (2) s2).bind fun q3 =>
        let v3 := q3.1
        let s3 := q3.2
        some (v3, s3)
      ) else (
        (F_X5_refused (1) s2).bind fun q4 =>
        let v4 := q4.1
        let s4 := q4.2
        some (v4, s4)
      )
      else none
    ) else (
      (F_X5_refused (-2) s2).bind fun q5 =>
      let v5 := q5.1
      let s5 := q5.2
      some (v5, s5)
    )
  ) else (
    (F_X5_refused (-1) s1).bind fun q6 =>
    let v6 := q6.1
    let s6 := q6.2
    some (v6, s6)
  )
set_option maxRecDepth 50000 in
theorem m_X5_as (p0 : Int32) (p1 : Int32) (σ : PS) {v : Int32} {σ' : PS} (h : F_X5_as p0 p1 σ = some (v, σ')) : PR 190 [.ref 19, .int p0, .int p1] σ (some (.int v)) σ' := by
  refine PR.enter (L := [some (.ref 19), some (.int p0), some (.int p1)]) uT_190 uD_190 rfl rfl ?_
  unfold F_X5_as at h
  refine RU.blk (C' := (2, [some (.ref 19), some (.int p0), some (.int p1)], [.int p0, .ref 19], σ)) 2 rfl ?_
  obtain ⟨⟨v1, s1⟩, hk, h⟩ := Option.bind_eq_some_iff.mp h
  dsimp only at h
  refine RU.call (as := [.ref 19, .int p0]) (rest := []) (u := some (.int v1)) (C' := (5, [some (.ref 19), some (.int p0), some (.int p1)], [.int v1], s1)) rfl rfl (m_X5_noLooker p0 σ hk) rfl rfl ?_
  refine RU.blk (C' := (bif cEq v1 0 then 14 else 8, [some (.ref 19), some (.int p0), some (.int p1)], [], s1)) 1 rfl ?_
  rcases cnd_some h with ⟨hc, h⟩ | ⟨hc, h⟩
  · refine RU.tt hc ?_
    refine RU.blk (C' := (20, [some (.ref 19), some (.int p0), some (.int p1)], [.long (2), .long 0, .long (Int32.toInt64 p1)], s1)) 4 rfl ?_
    obtain ⟨⟨v2, s2⟩, hk, h⟩ := Option.bind_eq_some_iff.mp h
    dsimp only at h
    refine RU.call (as := [.long (Int32.toInt64 p1), .long 0, .long (2)]) (rest := []) (u := some (.int v2)) (C' := (23, [some (.ref 19), some (.int p0), some (.int p1)], [.int v2], s2)) rfl rfl (m_X5_in (Int32.toInt64 p1) 0 (2) s1 hk) rfl rfl ?_
    refine RU.blk (C' := (bif cNe v2 0 then 33 else 26, [some (.ref 19), some (.int p0), some (.int p1)], [], s2)) 1 rfl ?_
    rcases cnd_some h with ⟨hc, h⟩ | ⟨hc, h⟩
    · refine RU.tt hc ?_
      refine RU.blk (C' := (38, [some (.ref 19), some (.int p0), some (.int p1)], [.int p0, .ref 21], s2)) 3 rfl ?_
      obtain ⟨hv, h⟩ := cnd_n h
      refine RU.iald (N := 4) rfl rfl hv ?_
      refine RU.blk (C' := (bif cLt (gA s2 21 (Int32.toNatClampNeg p0)) p1 then 51 else 43, [some (.ref 19), some (.int p0), some (.int p1)], [], s2)) 2 rfl ?_
      rcases cnd_some h with ⟨hc, h⟩ | ⟨hc, h⟩
      · refine RU.tt hc ?_
        refine RU.blk (C' := (53, [some (.ref 19), some (.int p0), some (.int p1)], [.int (2), .ref 19], s2)) 2 rfl ?_
        obtain ⟨⟨v3, s3⟩, hk, h⟩ := Option.bind_eq_some_iff.mp h
        dsimp only at h
        refine RU.call (as := [.ref 19, .int (2)]) (rest := []) (u := some (.int v3)) (C' := (56, [some (.ref 19), some (.int p0), some (.int p1)], [.int v3], s3)) rfl rfl (m_X5_failed (2) s2 hk) rfl rfl ?_
        obtain ⟨rfl, rfl⟩ := ret_inj h
        exact RU.ret rfl rfl rfl
      · refine RU.ff hc ?_
        refine RU.blk (C' := (45, [some (.ref 19), some (.int p0), some (.int p1)], [.int (1), .ref 19], s2)) 2 rfl ?_
        obtain ⟨⟨v4, s4⟩, hk, h⟩ := Option.bind_eq_some_iff.mp h
        dsimp only at h
        refine RU.call (as := [.ref 19, .int (1)]) (rest := []) (u := some (.int v4)) (C' := (48, [some (.ref 19), some (.int p0), some (.int p1)], [.int v4], s4)) rfl rfl (m_X5_refused (1) s2 hk) rfl rfl ?_
        refine RU.blk (C' := (56, [some (.ref 19), some (.int p0), some (.int p1)], [.int v4], s4)) 1 rfl ?_
        obtain ⟨rfl, rfl⟩ := ret_inj h
        exact RU.ret rfl rfl rfl
    · refine RU.ff hc ?_
      refine RU.blk (C' := (29, [some (.ref 19), some (.int p0), some (.int p1)], [.int (-2), .ref 19], s2)) 2 rfl ?_
      obtain ⟨⟨v5, s5⟩, hk, h⟩ := Option.bind_eq_some_iff.mp h
      dsimp only at h
      refine RU.call (as := [.ref 19, .int (-2)]) (rest := []) (u := some (.int v5)) (C' := (32, [some (.ref 19), some (.int p0), some (.int p1)], [.int v5], s5)) rfl rfl (m_X5_refused (-2) s2 hk) rfl rfl ?_
      obtain ⟨rfl, rfl⟩ := ret_inj h
      exact RU.ret rfl rfl rfl
  · refine RU.ff hc ?_
    refine RU.blk (C' := (10, [some (.ref 19), some (.int p0), some (.int p1)], [.int (-1), .ref 19], s1)) 2 rfl ?_
    obtain ⟨⟨v6, s6⟩, hk, h⟩ := Option.bind_eq_some_iff.mp h
    dsimp only at h
    refine RU.call (as := [.ref 19, .int (-1)]) (rest := []) (u := some (.int v6)) (C' := (13, [some (.ref 19), some (.int p0), some (.int p1)], [.int v6], s6)) rfl rfl (m_X5_refused (-1) s1 hk) rfl rfl ?_
    obtain ⟨rfl, rfl⟩ := ret_inj h
    exact RU.ret rfl rfl rfl
noncomputable def F_X5_trace  (σ : PS) : Option (Int32 × PS) :=
  some ((gI σ 1249), σ)
set_option maxRecDepth 50000 in
theorem m_X5_trace  (σ : PS) {v : Int32} {σ' : PS} (h : F_X5_trace σ = some (v, σ')) : PR 191 [.ref 19] σ (some (.int v)) σ' := by
  refine PR.enter (L := [some (.ref 19)]) uT_191 uD_191 rfl rfl ?_
  unfold F_X5_trace at h
  refine RU.blk (C' := (4, [some (.ref 19)], [.int (gI σ 1249)], σ)) 2 rfl ?_
  obtain ⟨rfl, rfl⟩ := ret_inj h
  exact RU.ret rfl rfl rfl
noncomputable def F_X5_fault  (σ : PS) : Option (Int32 × PS) :=
  some ((gI σ 1216), σ)
set_option maxRecDepth 50000 in
theorem m_X5_fault  (σ : PS) {v : Int32} {σ' : PS} (h : F_X5_fault σ = some (v, σ')) : PR 192 [.ref 19] σ (some (.int v)) σ' := by
  refine PR.enter (L := [some (.ref 19)]) uT_192 uD_192 rfl rfl ?_
  unfold F_X5_fault at h
  refine RU.blk (C' := (4, [some (.ref 19)], [.int (gI σ 1216)], σ)) 2 rfl ?_
  obtain ⟨rfl, rfl⟩ := ret_inj h
  exact RU.ret rfl rfl rfl
noncomputable def F_X5_many (p0 : Int32) (σ : PS) : Option (Int32 × PS) :=
  bif decide (p0 = (0)) then (
    some ((gI σ 1217), σ)
  ) else (
    bif decide (p0 = (1)) then (
      some ((gI σ 1218), σ)
    ) else (
      bif decide (p0 = (2)) then (
        some ((gI σ 1219), σ)
      ) else (
        bif decide (p0 = (3)) then (
          (F_X5_placeOf (0) σ).bind fun q1 =>
          let v1 := q1.1
          let s1 := q1.2
          some (v1, s1)
        ) else (
          bif decide (p0 = (4)) then (
            some ((gI σ 1222), σ)
          ) else (
            bif decide (p0 = (5)) then (
              (F_X5_bits (gL σ 1224) σ).bind fun q2 =>
              let v2 := q2.1
              let s2 := q2.2
              some (v2, s2)
            ) else (
              bif decide (p0 = (6)) then (
                some ((gI σ 1241), σ)
              ) else (
                some ((-2), σ)
              )
            )
          )
        )
      )
    )
  )
set_option maxRecDepth 50000 in
theorem m_X5_many (p0 : Int32) (σ : PS) {v : Int32} {σ' : PS} (h : F_X5_many p0 σ = some (v, σ')) : PR 193 [.ref 19, .int p0] σ (some (.int v)) σ' := by
  refine PR.enter (L := [some (.ref 19), some (.int p0)]) uT_193 uD_193 rfl rfl ?_
  unfold F_X5_many at h
  refine RU.blk (C' := (bif decide (p0 = (0)) then 44 else (bif decide (p0 = (1)) then 49 else (bif decide (p0 = (2)) then 54 else (bif decide (p0 = (3)) then 59 else (bif decide (p0 = (4)) then 65 else (bif decide (p0 = (5)) then 70 else (bif decide (p0 = (6)) then 78 else 83)))))), [some (.ref 19), some (.int p0)], [], σ)) 2 rfl ?_
  rcases cnd_some h with ⟨hc, h⟩ | ⟨hc, h⟩
  · refine RU.tt hc ?_
    refine RU.blk (C' := (48, [some (.ref 19), some (.int p0)], [.int (gI σ 1217)], σ)) 2 rfl ?_
    obtain ⟨rfl, rfl⟩ := ret_inj h
    exact RU.ret rfl rfl rfl
  · refine RU.ff hc ?_
    rcases cnd_some h with ⟨hc, h⟩ | ⟨hc, h⟩
    · refine RU.tt hc ?_
      refine RU.blk (C' := (53, [some (.ref 19), some (.int p0)], [.int (gI σ 1218)], σ)) 2 rfl ?_
      obtain ⟨rfl, rfl⟩ := ret_inj h
      exact RU.ret rfl rfl rfl
    · refine RU.ff hc ?_
      rcases cnd_some h with ⟨hc, h⟩ | ⟨hc, h⟩
      · refine RU.tt hc ?_
        refine RU.blk (C' := (58, [some (.ref 19), some (.int p0)], [.int (gI σ 1219)], σ)) 2 rfl ?_
        obtain ⟨rfl, rfl⟩ := ret_inj h
        exact RU.ret rfl rfl rfl
      · refine RU.ff hc ?_
        rcases cnd_some h with ⟨hc, h⟩ | ⟨hc, h⟩
        · refine RU.tt hc ?_
          refine RU.blk (C' := (61, [some (.ref 19), some (.int p0)], [.int (0), .ref 19], σ)) 2 rfl ?_
          obtain ⟨⟨v1, s1⟩, hk, h⟩ := Option.bind_eq_some_iff.mp h
          dsimp only at h
          refine RU.call (as := [.ref 19, .int (0)]) (rest := []) (u := some (.int v1)) (C' := (64, [some (.ref 19), some (.int p0)], [.int v1], s1)) rfl rfl (m_X5_placeOf (0) σ hk) rfl rfl ?_
          obtain ⟨rfl, rfl⟩ := ret_inj h
          exact RU.ret rfl rfl rfl
        · refine RU.ff hc ?_
          rcases cnd_some h with ⟨hc, h⟩ | ⟨hc, h⟩
          · refine RU.tt hc ?_
            refine RU.blk (C' := (69, [some (.ref 19), some (.int p0)], [.int (gI σ 1222)], σ)) 2 rfl ?_
            obtain ⟨rfl, rfl⟩ := ret_inj h
            exact RU.ret rfl rfl rfl
          · refine RU.ff hc ?_
            rcases cnd_some h with ⟨hc, h⟩ | ⟨hc, h⟩
            · refine RU.tt hc ?_
              refine RU.blk (C' := (74, [some (.ref 19), some (.int p0)], [.long (gL σ 1224)], σ)) 2 rfl ?_
              obtain ⟨⟨v2, s2⟩, hk, h⟩ := Option.bind_eq_some_iff.mp h
              dsimp only at h
              refine RU.call (as := [.long (gL σ 1224)]) (rest := []) (u := some (.int v2)) (C' := (77, [some (.ref 19), some (.int p0)], [.int v2], s2)) rfl rfl (m_X5_bits (gL σ 1224) σ hk) rfl rfl ?_
              obtain ⟨rfl, rfl⟩ := ret_inj h
              exact RU.ret rfl rfl rfl
            · refine RU.ff hc ?_
              rcases cnd_some h with ⟨hc, h⟩ | ⟨hc, h⟩
              · refine RU.tt hc ?_
                refine RU.blk (C' := (82, [some (.ref 19), some (.int p0)], [.int (gI σ 1241)], σ)) 2 rfl ?_
                obtain ⟨rfl, rfl⟩ := ret_inj h
                exact RU.ret rfl rfl rfl
              · refine RU.ff hc ?_
                refine RU.blk (C' := (85, [some (.ref 19), some (.int p0)], [.int (-2)], σ)) 1 rfl ?_
                obtain ⟨rfl, rfl⟩ := ret_inj h
                exact RU.ret rfl rfl rfl
