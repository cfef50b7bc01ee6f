noncomputable def F_X4_trace  (σ : PS) : Option (Int32 × PS) :=
  some ((gI σ 4), σ)
set_option maxRecDepth 50000 in
theorem m_X4_trace  (σ : PS) {v : Int32} {σ' : PS} (h : F_X4_trace σ = some (v, σ')) : PR 99 [.ref 0] σ (some (.int v)) σ' := by
  refine PR.enter (L := [some (.ref 0)]) uT_99 uD_99 rfl rfl ?_
  unfold F_X4_trace at h
  refine RU.blk (C' := (4, [some (.ref 0)], [.int (gI σ 4)], σ)) 2 rfl ?_
  obtain ⟨rfl, rfl⟩ := ret_inj h
  exact RU.ret rfl rfl rfl
noncomputable def F_X4_fault  (σ : PS) : Option (Int32 × PS) :=
  some ((gI σ 5), σ)
set_option maxRecDepth 50000 in
theorem m_X4_fault  (σ : PS) {v : Int32} {σ' : PS} (h : F_X4_fault σ = some (v, σ')) : PR 100 [.ref 0] σ (some (.int v)) σ' := by
  refine PR.enter (L := [some (.ref 0)]) uT_100 uD_100 rfl rfl ?_
  unfold F_X4_fault at h
  refine RU.blk (C' := (4, [some (.ref 0)], [.int (gI σ 5)], σ)) 2 rfl ?_
  obtain ⟨rfl, rfl⟩ := ret_inj h
  exact RU.ret rfl rfl rfl
noncomputable def F_X4_many (p0 : Int32) (σ : PS) : Option (Int32 × PS) :=
  bif decide (p0 = (0)) then (
    (F_X1_columns σ).bind fun q1 =>
    let v1 := q1.1
    let s1 := q1.2
    some (v1, s1)
  ) else (
    bif decide (p0 = (1)) then (
      (F_X1_rows σ).bind fun q2 =>
      let v2 := q2.1
      let s2 := q2.2
      some (v2, s2)
    ) else (
      bif decide (p0 = (2)) then (
        (F_X1_lookers σ).bind fun q3 =>
        let v3 := q3.1
        let s3 := q3.2
        some (v3, s3)
      ) else (
        bif decide (p0 = (3)) then (
          (F_X1_place σ).bind fun q4 =>
          let v4 := q4.1
          let s4 := q4.2
          some (v4, s4)
        ) else (
          bif decide (p0 = (4)) then (
            (F_X1_stepsDone σ).bind fun q5 =>
            let v5 := q5.1
            let s5 := q5.2
            some (v5, s5)
          ) else (
            bif decide (p0 = (5)) then (
              (F_X1_seenCells σ).bind fun q6 =>
              let v6 := q6.1
              let s6 := q6.2
              (F_J13_bitCount_95d88 v6 s6).bind fun q7 =>
              let v7 := q7.1
              let s7 := q7.2
              some (v7, s7)
            ) else (
              bif decide (p0 = (6)) then (
                (F_X0_count σ).bind fun q8 =>
                let v8 := q8.1
                let s8 := q8.2
                some (v8, s8)
              ) else (
                some ((-2), σ)
              )
            )
          )
        )
      )
    )
  )
set_option maxRecDepth 50000 in
theorem m_X4_many (p0 : Int32) (σ : PS) {v : Int32} {σ' : PS} (h : F_X4_many p0 σ = some (v, σ')) : PR 101 [.ref 0, .int p0] σ (some (.int v)) σ' := by
  refine PR.enter (L := [some (.ref 0), some (.int p0)]) uT_101 uD_101 rfl rfl ?_
  unfold F_X4_many at h
  refine RU.blk (C' := (bif decide (p0 = (0)) then 44 else (bif decide (p0 = (1)) then 52 else (bif decide (p0 = (2)) then 60 else (bif decide (p0 = (3)) then 68 else (bif decide (p0 = (4)) then 76 else (bif decide (p0 = (5)) then 84 else (bif decide (p0 = (6)) then 95 else 103)))))), [some (.ref 0), some (.int p0)], [], σ)) 2 rfl ?_
  rcases cnd_some h with ⟨hc, h⟩ | ⟨hc, h⟩
  · refine RU.tt hc ?_
    refine RU.blk (C' := (48, [some (.ref 0), some (.int p0)], [.ref 10], σ)) 2 rfl ?_
    obtain ⟨⟨v1, s1⟩, hk, h⟩ := Option.bind_eq_some_iff.mp h
    dsimp only at h
    refine RU.call (as := [.ref 10]) (rest := []) (u := some (.int v1)) (C' := (51, [some (.ref 0), some (.int p0)], [.int v1], s1)) rfl rfl (m_X1_columns σ hk) rfl rfl ?_
    obtain ⟨rfl, rfl⟩ := ret_inj h
    exact RU.ret rfl rfl rfl
  · refine RU.ff hc ?_
    rcases cnd_some h with ⟨hc, h⟩ | ⟨hc, h⟩
    · refine RU.tt hc ?_
      refine RU.blk (C' := (56, [some (.ref 0), some (.int p0)], [.ref 10], σ)) 2 rfl ?_
      obtain ⟨⟨v2, s2⟩, hk, h⟩ := Option.bind_eq_some_iff.mp h
      dsimp only at h
      refine RU.call (as := [.ref 10]) (rest := []) (u := some (.int v2)) (C' := (59, [some (.ref 0), some (.int p0)], [.int v2], s2)) rfl rfl (m_X1_rows σ hk) rfl rfl ?_
      obtain ⟨rfl, rfl⟩ := ret_inj h
      exact RU.ret rfl rfl rfl
    · refine RU.ff hc ?_
      rcases cnd_some h with ⟨hc, h⟩ | ⟨hc, h⟩
      · refine RU.tt hc ?_
        refine RU.blk (C' := (64, [some (.ref 0), some (.int p0)], [.ref 10], σ)) 2 rfl ?_
        obtain ⟨⟨v3, s3⟩, hk, h⟩ := Option.bind_eq_some_iff.mp h
        dsimp only at h
        refine RU.call (as := [.ref 10]) (rest := []) (u := some (.int v3)) (C' := (67, [some (.ref 0), some (.int p0)], [.int v3], s3)) rfl rfl (m_X1_lookers σ hk) rfl rfl ?_
        obtain ⟨rfl, rfl⟩ := ret_inj h
        exact RU.ret rfl rfl rfl
      · refine RU.ff hc ?_
        rcases cnd_some h with ⟨hc, h⟩ | ⟨hc, h⟩
        · refine RU.tt hc ?_
          refine RU.blk (C' := (72, [some (.ref 0), some (.int p0)], [.ref 10], σ)) 2 rfl ?_
          obtain ⟨⟨v4, s4⟩, hk, h⟩ := Option.bind_eq_some_iff.mp h
          dsimp only at h
          refine RU.call (as := [.ref 10]) (rest := []) (u := some (.int v4)) (C' := (75, [some (.ref 0), some (.int p0)], [.int v4], s4)) rfl rfl (m_X1_place σ hk) rfl rfl ?_
          obtain ⟨rfl, rfl⟩ := ret_inj h
          exact RU.ret rfl rfl rfl
        · refine RU.ff hc ?_
          rcases cnd_some h with ⟨hc, h⟩ | ⟨hc, h⟩
          · refine RU.tt hc ?_
            refine RU.blk (C' := (80, [some (.ref 0), some (.int p0)], [.ref 10], σ)) 2 rfl ?_
            obtain ⟨⟨v5, s5⟩, hk, h⟩ := Option.bind_eq_some_iff.mp h
            dsimp only at h
            refine RU.call (as := [.ref 10]) (rest := []) (u := some (.int v5)) (C' := (83, [some (.ref 0), some (.int p0)], [.int v5], s5)) rfl rfl (m_X1_stepsDone σ hk) rfl rfl ?_
            obtain ⟨rfl, rfl⟩ := ret_inj h
            exact RU.ret rfl rfl rfl
          · refine RU.ff hc ?_
            rcases cnd_some h with ⟨hc, h⟩ | ⟨hc, h⟩
            · refine RU.tt hc ?_
              refine RU.blk (C' := (88, [some (.ref 0), some (.int p0)], [.ref 10], σ)) 2 rfl ?_
              obtain ⟨⟨v6, s6⟩, hk, h⟩ := Option.bind_eq_some_iff.mp h
              dsimp only at h
              refine RU.call (as := [.ref 10]) (rest := []) (u := some (.long v6)) (C' := (91, [some (.ref 0), some (.int p0)], [.long v6], s6)) rfl rfl (m_X1_seenCells σ hk) rfl rfl ?_
              obtain ⟨⟨v7, s7⟩, hk, h⟩ := Option.bind_eq_some_iff.mp h
              dsimp only at h
              refine RU.call (as := [.long v6]) (rest := []) (u := some (.int v7)) (C' := (94, [some (.ref 0), some (.int p0)], [.int v7], s7)) rfl rfl (m_J13_bitCount_95d88 v6 s6 hk) rfl rfl ?_
              obtain ⟨rfl, rfl⟩ := ret_inj h
              exact RU.ret rfl rfl rfl
            · refine RU.ff hc ?_
              rcases cnd_some h with ⟨hc, h⟩ | ⟨hc, h⟩
              · refine RU.tt hc ?_
                refine RU.blk (C' := (99, [some (.ref 0), some (.int p0)], [.ref 14], σ)) 2 rfl ?_
                obtain ⟨⟨v8, s8⟩, hk, h⟩ := Option.bind_eq_some_iff.mp h
                dsimp only at h
                refine RU.call (as := [.ref 14]) (rest := []) (u := some (.int v8)) (C' := (102, [some (.ref 0), some (.int p0)], [.int v8], s8)) rfl rfl (m_X0_count σ hk) rfl rfl ?_
                obtain ⟨rfl, rfl⟩ := ret_inj h
                exact RU.ret rfl rfl rfl
              · refine RU.ff hc ?_
                refine RU.blk (C' := (105, [some (.ref 0), some (.int p0)], [.int (-2)], σ)) 1 rfl ?_
                obtain ⟨rfl, rfl⟩ := ret_inj h
                exact RU.ret rfl rfl rfl
noncomputable def F_X5_in (p0 : Int64) (p1 : Int64) (p2 : Int64) (σ : PS) : Option (Int32 × PS) :=
  bif cLt (lg_cmp p0 p1) 0 then (
    some ((0), σ)
  ) else (
    bif cGt (lg_cmp p0 p2) 0 then (
      some ((0), σ)
    ) else (
      some ((1), σ)
    )
  )
set_option maxRecDepth 50000 in
theorem m_X5_in (p0 : Int64) (p1 : Int64) (p2 : Int64) (σ : PS) {v : Int32} {σ' : PS} (h : F_X5_in p0 p1 p2 σ = some (v, σ')) : PR 122 [.long p0, .long p1, .long p2] σ (some (.int v)) σ' := by
  refine PR.enter (L := [some (.long p0), none, some (.long p1), none, some (.long p2), none]) uT_122 uD_122 rfl rfl ?_
  unfold F_X5_in at h
  refine RU.blk (C' := (bif cLt (lg_cmp p0 p1) 0 then 17 else 6, [some (.long p0), none, some (.long p1), none, some (.long p2), none], [], σ)) 4 rfl ?_
  rcases cnd_some h with ⟨hc, h⟩ | ⟨hc, h⟩
  · refine RU.tt hc ?_
    refine RU.blk (C' := (18, [some (.long p0), none, some (.long p1), none, some (.long p2), none], [.int (0)], σ)) 1 rfl ?_
    obtain ⟨rfl, rfl⟩ := ret_inj h
    exact RU.ret rfl rfl rfl
  · refine RU.ff hc ?_
    refine RU.blk (C' := (bif cGt (lg_cmp p0 p2) 0 then 17 else 13, [some (.long p0), none, some (.long p1), none, some (.long p2), none], [], σ)) 4 rfl ?_
    rcases cnd_some h with ⟨hc, h⟩ | ⟨hc, h⟩
    · refine RU.tt hc ?_
      refine RU.blk (C' := (18, [some (.long p0), none, some (.long p1), none, some (.long p2), none], [.int (0)], σ)) 1 rfl ?_
      obtain ⟨rfl, rfl⟩ := ret_inj h
      exact RU.ret rfl rfl rfl
    · refine RU.ff hc ?_
      refine RU.blk (C' := (18, [some (.long p0), none, some (.long p1), none, some (.long p2), none], [.int (1)], σ)) 2 rfl ?_
      obtain ⟨rfl, rfl⟩ := ret_inj h
      exact RU.ret rfl rfl rfl
noncomputable def F_X5_lost  (σ : PS) : Option (Int64 × PS) :=
  some ((-9223372036854775808), σ)
set_option maxRecDepth 50000 in
theorem m_X5_lost  (σ : PS) {v : Int64} {σ' : PS} (h : F_X5_lost σ = some (v, σ')) : PR 123 [] σ (some (.long v)) σ' := by
  refine PR.enter (L := []) uT_123 uD_123 rfl rfl ?_
  unfold F_X5_lost at h
  refine RU.blk (C' := (3, [], [.long (-9223372036854775808)], σ)) 1 rfl ?_
  obtain ⟨rfl, rfl⟩ := ret_inj h
  exact RU.ret rfl rfl rfl
noncomputable def F_X5_isIn (p0 : Int32) (p1 : Int32) (σ : PS) : Option (Int32 × PS) :=
  bif cNe ((shr p0 p1) &&& (1)) (1) then (
    some ((0), σ)
  ) else (
    some ((1), σ)
  )
set_option maxRecDepth 50000 in
theorem m_X5_isIn (p0 : Int32) (p1 : Int32) (σ : PS) {v : Int32} {σ' : PS} (h : F_X5_isIn p0 p1 σ = some (v, σ')) : PR 124 [.int p0, .int p1] σ (some (.int v)) σ' := by
  refine PR.enter (L := [some (.int p0), some (.int p1)]) uT_124 uD_124 rfl rfl ?_
  unfold F_X5_isIn at h
  refine RU.blk (C' := (bif cNe ((shr p0 p1) &&& (1)) (1) then 13 else 9, [some (.int p0), some (.int p1)], [], σ)) 7 rfl ?_
  rcases cnd_some h with ⟨hc, h⟩ | ⟨hc, h⟩
  · refine RU.tt hc ?_
    refine RU.blk (C' := (14, [some (.int p0), some (.int p1)], [.int (0)], σ)) 1 rfl ?_
    obtain ⟨rfl, rfl⟩ := ret_inj h
    exact RU.ret rfl rfl rfl
  · refine RU.ff hc ?_
    refine RU.blk (C' := (14, [some (.int p0), some (.int p1)], [.int (1)], σ)) 2 rfl ?_
    obtain ⟨rfl, rfl⟩ := ret_inj h
    exact RU.ret rfl rfl rfl
noncomputable def L_X5_bits  : Nat → Int32 → Int64 → PS → Option (Int32 × PS)
  | 0, _, _, _ => none
  | n + 1, x2, y3, σ => 
    bif cLe (lg_cmp y3 0) 0 then (
      some (x2, σ)
    ) else (
      bif cNe (lg_cmp (y3 &&& 1) 1) 0 then (
        L_X5_bits n  (x2 + (0)) (lshr y3 (1)) σ
      ) else (
        L_X5_bits n  (x2 + (1)) (lshr y3 (1)) σ
      )
    )
set_option maxRecDepth 50000 in
theorem ml_X5_bits  (n : Nat) : (∀ (x2 : Int32) (y3 : Int64) (u0 : Option Value) (u1 : Option Value) (σ : PS) (v : Int32) (σ' : PS), L_X5_bits n x2 y3 σ = some (v, σ') → RU ubX5_bits 0 0 (4, [u0, u1, some (.int x2), some (.long y3), none], [], σ) (some (.int v)) σ') := by
  induction n with
  | zero =>
    intro x2 y3 u0 u1 σ v σ' h; exact absurd (show (none : Option (Int32 × PS)) = some (v, σ') from h) (by simp)
  | succ n ih =>
    intro x2 y3 u0 u1 σ v σ' h
    rw [L_X5_bits] at h
    refine RU.blk (C' := (bif cLe (lg_cmp y3 0) 0 then 33 else 10, [none, none, some (.int x2), some (.long y3), none], [], σ)) 4 rfl ?_
    rcases cnd_some h with ⟨hc, h⟩ | ⟨hc, h⟩
    · refine RU.tt hc ?_
      refine RU.blk (C' := (34, [none, none, some (.int x2), some (.long y3), none], [.int x2], σ)) 1 rfl ?_
      obtain ⟨rfl, rfl⟩ := ret_inj h
      exact RU.ret rfl rfl rfl
    · refine RU.ff hc ?_
      refine RU.blk (C' := (bif cNe (lg_cmp (y3 &&& 1) 1) 0 then 23 else 19, [none, none, some (.int x2), some (.long y3), none], [.int x2], σ)) 7 rfl ?_
      rcases cnd_some h with ⟨hc, h⟩ | ⟨hc, h⟩
      · refine RU.tt hc ?_
        refine RU.blk (C' := (4, [none, none, some (.int (x2 + (0))), some (.long (lshr y3 (1))), none], [], σ)) 8 rfl ?_
        exact ih (x2 + (0)) (lshr y3 (1)) none none _ _ _ h
      · refine RU.ff hc ?_
        refine RU.blk (C' := (4, [none, none, some (.int (x2 + (1))), some (.long (lshr y3 (1))), none], [], σ)) 9 rfl ?_
        exact ih (x2 + (1)) (lshr y3 (1)) none none _ _ _ h
noncomputable def F_X5_bits (p0 : Int64) (σ : PS) : Option (Int32 × PS) :=
  L_X5_bits fuelN  (0) p0 σ
set_option maxRecDepth 50000 in
theorem m_X5_bits (p0 : Int64) (σ : PS) {v : Int32} {σ' : PS} (h : F_X5_bits p0 σ = some (v, σ')) : PR 125 [.long p0] σ (some (.int v)) σ' := by
  refine PR.enter (L := [some (.long p0), none, none, none, none]) uT_125 uD_125 rfl rfl ?_
  unfold F_X5_bits at h
  refine RU.blk (C' := (4, [some (.long p0), none, some (.int (0)), some (.long p0), none], [], σ)) 4 rfl ?_
  exact (ml_X5_bits fuelN) (0) p0 (some (.long p0)) none _ _ _ h
noncomputable def L_X5_share  : Nat → Int64 → Int64 → Int32 → Int64 → Int64 → PS → Option (Int64 × PS)
  | 0, _, _, _, _, _, _ => none
  | n + 1, y0, y2, x4, y5, y7, σ => 
    bif cEq (lg_cmp y7 0) 0 then (
      bif cNe x4 0 then (
        bif decide (y5 = 0) then none else
        some ((y2 / y5), σ)
      ) else (
        bif decide (y5 = 0) then none else
        some ((y0 / y5), σ)
      )
    ) else (
      bif decide (y7 = 0) then none else
      L_X5_share n  y0 y2 x4 y7 (lrem y5 y7) σ
    )
set_option maxRecDepth 50000 in
theorem ml_X5_share  (n : Nat) : (∀ (y0 : Int64) (y2 : Int64) (x4 : Int32) (y5 : Int64) (y7 : Int64) (u9 : Option Value) (u10 : Option Value) (σ : PS) (v : Int64) (σ' : PS), L_X5_share n y0 y2 x4 y5 y7 σ = some (v, σ') → RU ubX5_share 0 0 (6, [some (.long y0), none, some (.long y2), none, some (.int x4), some (.long y5), none, some (.long y7), none, u9, u10], [], σ) (some (.long v)) σ') := by
  induction n with
  | zero =>
    intro y0 y2 x4 y5 y7 u9 u10 σ v σ' h; exact absurd (show (none : Option (Int64 × PS)) = some (v, σ') from h) (by simp)
  | succ n ih =>
    intro y0 y2 x4 y5 y7 u9 u10 σ v σ' h
    rw [L_X5_share] at h
    refine RU.blk (C' := (bif cEq (lg_cmp y7 0) 0 then 31 else 13, [some (.long y0), none, some (.long y2), none, some (.int x4), some (.long y5), none, some (.long y7), none, none, none], [], σ)) 4 rfl ?_
    rcases cnd_some h with ⟨hc, h⟩ | ⟨hc, h⟩
    · refine RU.tt hc ?_
      refine RU.blk (C' := (bif cNe x4 0 then 40 else 36, [some (.long y0), none, some (.long y2), none, some (.int x4), some (.long y5), none, some (.long y7), none, none, none], [], σ)) 2 rfl ?_
      rcases cnd_some h with ⟨hc, h⟩ | ⟨hc, h⟩
      · refine RU.tt hc ?_
        refine RU.blk (C' := (43, [some (.long y0), none, some (.long y2), none, some (.int x4), some (.long y5), none, some (.long y7), none, none, none], [.long y5, .long y2], σ)) 2 rfl ?_
        obtain ⟨hv, h⟩ := cnd_e h
        refine RU.ldiv rfl hv ?_
        obtain ⟨rfl, rfl⟩ := ret_inj h
        exact RU.ret rfl rfl rfl
      · refine RU.ff hc ?_
        refine RU.blk (C' := (43, [some (.long y0), none, some (.long y2), none, some (.int x4), some (.long y5), none, some (.long y7), none, none, none], [.long y5, .long y0], σ)) 3 rfl ?_
        obtain ⟨hv, h⟩ := cnd_e h
        refine RU.ldiv rfl hv ?_
        obtain ⟨rfl, rfl⟩ := ret_inj h
        exact RU.ret rfl rfl rfl
    · refine RU.ff hc ?_
      refine RU.blk (C' := (17, [some (.long y0), none, some (.long y2), none, some (.int x4), some (.long y5), none, some (.long y7), none, none, none], [.long y7, .long y5], σ)) 2 rfl ?_
      obtain ⟨hv, h⟩ := cnd_e h
      refine RU.ldiv rfl hv ?_
      refine RU.blk (C' := (6, [some (.long y0), none, some (.long y2), none, some (.int x4), some (.long y7), none, some (.long (lrem y5 y7)), none, some (.long (lrem y5 y7)), none], [], σ)) 6 rfl ?_
      exact ih y0 y2 x4 y7 (lrem y5 y7) (some (.long (lrem y5 y7))) none _ _ _ h
noncomputable def F_X5_share (p0 : Int64) (p1 : Int64) (p2 : Int32) (σ : PS) : Option (Int64 × PS) :=
  L_X5_share fuelN  p0 p1 p2 p0 p1 σ
set_option maxRecDepth 50000 in
theorem m_X5_share (p0 : Int64) (p1 : Int64) (p2 : Int32) (σ : PS) {v : Int64} {σ' : PS} (h : F_X5_share p0 p1 p2 σ = some (v, σ')) : PR 126 [.long p0, .long p1, .int p2] σ (some (.long v)) σ' := by
  refine PR.enter (L := [some (.long p0), none, some (.long p1), none, some (.int p2), none, none, none, none, none, none]) uT_126 uD_126 rfl rfl ?_
  unfold F_X5_share at h
  refine RU.blk (C' := (6, [some (.long p0), none, some (.long p1), none, some (.int p2), some (.long p0), none, some (.long p1), none, none, none], [], σ)) 4 rfl ?_
  exact (ml_X5_share fuelN) p0 p1 p2 p0 p1 none none _ _ _ h
noncomputable def F_X5_refused (p0 : Int32) (σ : PS) : Option (Int32 × PS) :=
  some (p0, (sI σ 1216 (0)))
set_option maxRecDepth 50000 in
theorem m_X5_refused (p0 : Int32) (σ : PS) {v : Int32} {σ' : PS} (h : F_X5_refused p0 σ = some (v, σ')) : PR 127 [.ref 19, .int p0] σ (some (.int v)) σ' := by
  refine PR.enter (L := [some (.ref 19), some (.int p0)]) uT_127 uD_127 rfl rfl ?_
  unfold F_X5_refused at h
  refine RU.blk (C' := (6, [some (.ref 19), some (.int p0)], [.int p0], (sI σ 1216 (0)))) 4 rfl ?_
  obtain ⟨rfl, rfl⟩ := ret_inj h
  exact RU.ret rfl rfl rfl
noncomputable def F_X5_failed (p0 : Int32) (σ : PS) : Option (Int32 × PS) :=
  some (((-10) - p0), (sI σ 1216 p0))
set_option maxRecDepth 50000 in
theorem m_X5_failed (p0 : Int32) (σ : PS) {v : Int32} {σ' : PS} (h : F_X5_failed p0 σ = some (v, σ')) : PR 128 [.ref 19, .int p0] σ (some (.int v)) σ' := by
  refine PR.enter (L := [some (.ref 19), some (.int p0)]) uT_128 uD_128 rfl rfl ?_
  unfold F_X5_failed at h
  refine RU.blk (C' := (9, [some (.ref 19), some (.int p0)], [.int ((-10) - p0)], (sI σ 1216 p0))) 6 rfl ?_
  obtain ⟨rfl, rfl⟩ := ret_inj h
  exact RU.ret rfl rfl rfl
noncomputable def F_X5_failedLong (p0 : Int32) (σ : PS) : Option (Int64 × PS) :=
  (F_X5_lost (sI σ 1216 p0)).bind fun q1 =>
  let v1 := q1.1
  let s1 := q1.2
  some (v1, s1)
set_option maxRecDepth 50000 in
theorem m_X5_failedLong (p0 : Int32) (σ : PS) {v : Int64} {σ' : PS} (h : F_X5_failedLong p0 σ = some (v, σ')) : PR 129 [.ref 19, .int p0] σ (some (.long v)) σ' := by
  refine PR.enter (L := [some (.ref 19), some (.int p0)]) uT_129 uD_129 rfl rfl ?_
  unfold F_X5_failedLong at h
  refine RU.blk (C' := (5, [some (.ref 19), some (.int p0)], [], (sI σ 1216 p0))) 3 rfl ?_
  obtain ⟨⟨v1, s1⟩, hk, h⟩ := Option.bind_eq_some_iff.mp h
  dsimp only at h
  refine RU.call (as := []) (rest := []) (u := some (.long v1)) (C' := (8, [some (.ref 19), some (.int p0)], [.long v1], s1)) rfl rfl (m_X5_lost (sI σ 1216 p0) hk) rfl rfl ?_
  obtain ⟨rfl, rfl⟩ := ret_inj h
  exact RU.ret rfl rfl rfl
noncomputable def F_X5_noLooker (p0 : Int32) (σ : PS) : Option (Int32 × PS) :=
  (F_X5_in (Int32.toInt64 p0) 0 ((Int32.toInt64 (gI σ 1219)) - 1) σ).bind fun q1 =>
  let v1 := q1.1
  let s1 := q1.2
  bif cNe v1 0 then (
    some ((0), s1)
  ) else (
    some ((1), s1)
  )
set_option maxRecDepth 50000 in
theorem m_X5_noLooker (p0 : Int32) (σ : PS) {v : Int32} {σ' : PS} (h : F_X5_noLooker p0 σ = some (v, σ')) : PR 130 [.ref 19, .int p0] σ (some (.int v)) σ' := by
  refine PR.enter (L := [some (.ref 19), some (.int p0)]) uT_130 uD_130 rfl rfl ?_
  unfold F_X5_noLooker at h
  refine RU.blk (C' := (10, [some (.ref 19), some (.int p0)], [.long ((Int32.toInt64 (gI σ 1219)) - 1), .long 0, .long (Int32.toInt64 p0)], σ)) 8 rfl ?_
  obtain ⟨⟨v1, s1⟩, hk, h⟩ := Option.bind_eq_some_iff.mp h
  dsimp only at h
  refine RU.call (as := [.long (Int32.toInt64 p0), .long 0, .long ((Int32.toInt64 (gI σ 1219)) - 1)]) (rest := []) (u := some (.int v1)) (C' := (13, [some (.ref 19), some (.int p0)], [.int v1], s1)) rfl rfl (m_X5_in (Int32.toInt64 p0) 0 ((Int32.toInt64 (gI σ 1219)) - 1) σ hk) rfl rfl ?_
  refine RU.blk (C' := (bif cNe v1 0 then 20 else 16, [some (.ref 19), some (.int p0)], [], s1)) 1 rfl ?_
  rcases cnd_some h with ⟨hc, h⟩ | ⟨hc, h⟩
  · refine RU.tt hc ?_
    refine RU.blk (C' := (21, [some (.ref 19), some (.int p0)], [.int (0)], s1)) 1 rfl ?_
    obtain ⟨rfl, rfl⟩ := ret_inj h
    exact RU.ret rfl rfl rfl
  · refine RU.ff hc ?_
    refine RU.blk (C' := (21, [some (.ref 19), some (.int p0)], [.int (1)], s1)) 2 rfl ?_
    obtain ⟨rfl, rfl⟩ := ret_inj h
    exact RU.ret rfl rfl rfl
noncomputable def F_X5_noPlace (p0 : Int32) (σ : PS) : Option (Int32 × PS) :=
  (F_X5_in (Int32.toInt64 p0) 0 ((Int32.toInt64 ((gI σ 1217) * (gI σ 1218))) - 1) σ).bind fun q1 =>
  let v1 := q1.1
  let s1 := q1.2
  bif cNe v1 0 then (
    some ((0), s1)
  ) else (
    some ((1), s1)
  )
set_option maxRecDepth 50000 in
theorem m_X5_noPlace (p0 : Int32) (σ : PS) {v : Int32} {σ' : PS} (h : F_X5_noPlace p0 σ = some (v, σ')) : PR 131 [.ref 19, .int p0] σ (some (.int v)) σ' := by
  refine PR.enter (L := [some (.ref 19), some (.int p0)]) uT_131 uD_131 rfl rfl ?_
  unfold F_X5_noPlace at h
  refine RU.blk (C' := (15, [some (.ref 19), some (.int p0)], [.long ((Int32.toInt64 ((gI σ 1217) * (gI σ 1218))) - 1), .long 0, .long (Int32.toInt64 p0)], σ)) 11 rfl ?_
  obtain ⟨⟨v1, s1⟩, hk, h⟩ := Option.bind_eq_some_iff.mp h
  dsimp only at h
  refine RU.call (as := [.long (Int32.toInt64 p0), .long 0, .long ((Int32.toInt64 ((gI σ 1217) * (gI σ 1218))) - 1)]) (rest := []) (u := some (.int v1)) (C' := (18, [some (.ref 19), some (.int p0)], [.int v1], s1)) rfl rfl (m_X5_in (Int32.toInt64 p0) 0 ((Int32.toInt64 ((gI σ 1217) * (gI σ 1218))) - 1) σ hk) rfl rfl ?_
  refine RU.blk (C' := (bif cNe v1 0 then 25 else 21, [some (.ref 19), some (.int p0)], [], s1)) 1 rfl ?_
  rcases cnd_some h with ⟨hc, h⟩ | ⟨hc, h⟩
  · refine RU.tt hc ?_
    refine RU.blk (C' := (26, [some (.ref 19), some (.int p0)], [.int (0)], s1)) 1 rfl ?_
    obtain ⟨rfl, rfl⟩ := ret_inj h
    exact RU.ret rfl rfl rfl
  · refine RU.ff hc ?_
    refine RU.blk (C' := (26, [some (.ref 19), some (.int p0)], [.int (1)], s1)) 2 rfl ?_
    obtain ⟨rfl, rfl⟩ := ret_inj h
    exact RU.ret rfl rfl rfl
noncomputable def F_X5_codeAt (p0 : Int32) (p1 : Int32) (σ : PS) : Option (Int32 × PS) :=
  bif cGe (gI σ 1228) p1 then (
    some ((-9), σ)
  ) else (
    bif vin (p0 + (gI σ 1228)) 240 then
    some ((gA σ 32 (Int32.toNatClampNeg (p0 + (gI σ 1228)))), σ)
    else none
  )
set_option maxRecDepth 50000 in
theorem m_X5_codeAt (p0 : Int32) (p1 : Int32) (σ : PS) {v : Int32} {σ' : PS} (h : F_X5_codeAt p0 p1 σ = some (v, σ')) : PR 132 [.ref 19, .int p0, .int p1] σ (some (.int v)) σ' := by
  refine PR.enter (L := [some (.ref 19), some (.int p0), some (.int p1)]) uT_132 uD_132 rfl rfl ?_
  unfold F_X5_codeAt at h
  refine RU.blk (C' := (bif cGe (gI σ 1228) p1 then 22 else 8, [some (.ref 19), some (.int p0), some (.int p1)], [], σ)) 4 rfl ?_
  rcases cnd_some h with ⟨hc, h⟩ | ⟨hc, h⟩
  · refine RU.tt hc ?_
    refine RU.blk (C' := (24, [some (.ref 19), some (.int p0), some (.int p1)], [.int (-9)], σ)) 1 rfl ?_
    obtain ⟨rfl, rfl⟩ := ret_inj h
    exact RU.ret rfl rfl rfl
  · refine RU.ff hc ?_
    refine RU.blk (C' := (18, [some (.ref 19), some (.int p0), some (.int p1)], [.int (p0 + (gI σ 1228)), .ref 32], σ)) 6 rfl ?_
    obtain ⟨hv, h⟩ := cnd_n h
    refine RU.iald (N := 240) rfl rfl hv ?_
    refine RU.blk (C' := (24, [some (.ref 19), some (.int p0), some (.int p1)], [.int (gA σ 32 (Int32.toNatClampNeg (p0 + (gI σ 1228))))], σ)) 1 rfl ?_
    obtain ⟨rfl, rfl⟩ := ret_inj h
    exact RU.ret rfl rfl rfl
noncomputable def F_X5_figure (p0 : Int32) (p1 : Int32) (p2 : Int32) (p3 : Int32) (p4 : Int32) (σ : PS) : Option (Int32 × PS) :=
  bif cGe p2 0 then (
    (F_X5_codeAt p0 p1 σ).bind fun q1 =>
    let v1 := q1.1
    let s1 := q1.2
    (F_X5_in (Int32.toInt64 (v1 - (48))) (Int32.toInt64 p3) (Int32.toInt64 p4) s1).bind fun q2 =>
    let v2 := q2.1
    let s2 := q2.2
    bif cEq v2 0 then (
      bif cEq v2 0 then (
        some ((-9), (sI s2 1228 ((gI s2 1228) + (0))))
      ) else (
        some ((v1 - (48)), (sI s2 1228 ((gI s2 1228) + (0))))
      )
    ) else (
      bif cEq v2 0 then (
        some ((-9), (sI s2 1228 ((gI s2 1228) + (1))))
      ) else (
        some ((v1 - (48)), (sI s2 1228 ((gI s2 1228) + (1))))
      )
    )
  ) else (
    (F_X5_in (Int32.toInt64 (-9)) (Int32.toInt64 p3) (Int32.toInt64 p4) σ).bind fun q3 =>
    let v3 := q3.1
    let s3 := q3.2
    bif cEq v3 0 then (
      bif cEq v3 0 then (
        some ((-9), (sI s3 1228 ((gI s3 1228) + (0))))
      ) else (
        some ((-9), (sI s3 1228 ((gI s3 1228) + (0))))
      )
    ) else (
      bif cEq v3 0 then (
        some ((-9), (sI s3 1228 ((gI s3 1228) + (1))))
      ) else (
        some ((-9), (sI s3 1228 ((gI s3 1228) + (1))))
      )
    )
  )
set_option maxRecDepth 50000 in
theorem m_X5_figure (p0 : Int32) (p1 : Int32) (p2 : Int32) (p3 : Int32) (p4 : Int32) (σ : PS) {v : Int32} {σ' : PS} (h : F_X5_figure p0 p1 p2 p3 p4 σ = some (v, σ')) : PR 133 [.ref 19, .int p0, .int p1, .int p2, .int p3, .int p4] σ (some (.int v)) σ' := by
  refine PR.enter (L := [some (.ref 19), some (.int p0), some (.int p1), some (.int p2), some (.int p3), some (.int p4), none, none]) uT_133 uD_133 rfl rfl ?_
  unfold F_X5_figure at h
  refine RU.blk (C' := (bif cGe p2 0 then 9 else 4, [some (.ref 19), some (.int p0), some (.int p1), some (.int p2), some (.int p3), some (.int p4), none, none], [], σ)) 2 rfl ?_
  rcases cnd_some h with ⟨hc, h⟩ | ⟨hc, h⟩
  · refine RU.tt hc ?_
    refine RU.blk (C' := (12, [some (.ref 19), some (.int p0), some (.int p1), some (.int p2), some (.int p3), some (.int p4), none, none], [.int p1, .int p0, .ref 19], σ)) 3 rfl ?_
    obtain ⟨⟨v1, s1⟩, hk, h⟩ := Option.bind_eq_some_iff.mp h
    dsimp only at h
    refine RU.call (as := [.ref 19, .int p0, .int p1]) (rest := []) (u := some (.int v1)) (C' := (15, [some (.ref 19), some (.int p0), some (.int p1), some (.int p2), some (.int p3), some (.int p4), none, none], [.int v1], s1)) rfl rfl (m_X5_codeAt p0 p1 σ hk) rfl rfl ?_
    refine RU.blk (C' := (29, [some (.ref 19), some (.int p0), some (.int p1), some (.int p2), some (.int p3), some (.int p4), some (.int (v1 - (48))), none], [.long (Int32.toInt64 p4), .long (Int32.toInt64 p3), .long (Int32.toInt64 (v1 - (48)))], s1)) 9 rfl ?_
    obtain ⟨⟨v2, s2⟩, hk, h⟩ := Option.bind_eq_some_iff.mp h
    dsimp only at h
    refine RU.call (as := [.long (Int32.toInt64 (v1 - (48))), .long (Int32.toInt64 p3), .long (Int32.toInt64 p4)]) (rest := []) (u := some (.int v2)) (C' := (32, [some (.ref 19), some (.int p0), some (.int p1), some (.int p2), some (.int p3), some (.int p4), some (.int (v1 - (48))), none], [.int v2], s2)) rfl rfl (m_X5_in (Int32.toInt64 (v1 - (48))) (Int32.toInt64 p3) (Int32.toInt64 p4) s1 hk) rfl rfl ?_
    refine RU.blk (C' := (bif cEq v2 0 then 48 else 44, [some (.ref 19), some (.int p0), some (.int p1), some (.int p2), some (.int p3), some (.int p4), some (.int (v1 - (48))), some (.int v2)], [.int (gI s2 1228), .ref 19], s2)) 6 rfl ?_
    rcases cnd_some h with ⟨hc, h⟩ | ⟨hc, h⟩
    · refine RU.tt hc ?_
      refine RU.blk (C' := (bif cEq v2 0 then 63 else 58, [some (.ref 19), some (.int p0), some (.int p1), some (.int p2), some (.int p3), some (.int p4), some (.int (v1 - (48))), some (.int v2)], [], (sI s2 1228 ((gI s2 1228) + (0))))) 5 rfl ?_
      rcases cnd_some h with ⟨hc, h⟩ | ⟨hc, h⟩
      · refine RU.tt hc ?_
        refine RU.blk (C' := (65, [some (.ref 19), some (.int p0), some (.int p1), some (.int p2), some (.int p3), some (.int p4), some (.int (v1 - (48))), some (.int v2)], [.int (-9)], (sI s2 1228 ((gI s2 1228) + (0))))) 1 rfl ?_
        obtain ⟨rfl, rfl⟩ := ret_inj h
        exact RU.ret rfl rfl rfl
      · refine RU.ff hc ?_
        refine RU.blk (C' := (65, [some (.ref 19), some (.int p0), some (.int p1), some (.int p2), some (.int p3), some (.int p4), some (.int (v1 - (48))), some (.int v2)], [.int (v1 - (48))], (sI s2 1228 ((gI s2 1228) + (0))))) 2 rfl ?_
        obtain ⟨rfl, rfl⟩ := ret_inj h
        exact RU.ret rfl rfl rfl
    · refine RU.ff hc ?_
      refine RU.blk (C' := (bif cEq v2 0 then 63 else 58, [some (.ref 19), some (.int p0), some (.int p1), some (.int p2), some (.int p3), some (.int p4), some (.int (v1 - (48))), some (.int v2)], [], (sI s2 1228 ((gI s2 1228) + (1))))) 6 rfl ?_
      rcases cnd_some h with ⟨hc, h⟩ | ⟨hc, h⟩
      · refine RU.tt hc ?_
        refine RU.blk (C' := (65, [some (.ref 19), some (.int p0), some (.int p1), some (.int p2), some (.int p3), some (.int p4), some (.int (v1 - (48))), some (.int v2)], [.int (-9)], (sI s2 1228 ((gI s2 1228) + (1))))) 1 rfl ?_
        obtain ⟨rfl, rfl⟩ := ret_inj h
        exact RU.ret rfl rfl rfl
      · refine RU.ff hc ?_
        refine RU.blk (C' := (65, [some (.ref 19), some (.int p0), some (.int p1), some (.int p2), some (.int p3), some (.int p4), some (.int (v1 - (48))), some (.int v2)], [.int (v1 - (48))], (sI s2 1228 ((gI s2 1228) + (1))))) 2 rfl ?_
        obtain ⟨rfl, rfl⟩ := ret_inj h
        exact RU.ret rfl rfl rfl
  · refine RU.ff hc ?_
    refine RU.blk (C' := (29, [some (.ref 19), some (.int p0), some (.int p1), some (.int p2), some (.int p3), some (.int p4), some (.int (-9)), none], [.long (Int32.toInt64 p4), .long (Int32.toInt64 p3), .long (Int32.toInt64 (-9))], σ)) 9 rfl ?_
    obtain ⟨⟨v3, s3⟩, hk, h⟩ := Option.bind_eq_some_iff.mp h
    dsimp only at h
    refine RU.call (as := [.long (Int32.toInt64 (-9)), .long (Int32.toInt64 p3), .long (Int32.toInt64 p4)]) (rest := []) (u := some (.int v3)) (C' := (32, [some (.ref 19), some (.int p0), some (.int p1), some (.int p2), some (.int p3), some (.int p4), some (.int (-9)), none], [.int v3], s3)) rfl rfl (m_X5_in (Int32.toInt64 (-9)) (Int32.toInt64 p3) (Int32.toInt64 p4) σ hk) rfl rfl ?_
    refine RU.blk (C' := (bif cEq v3 0 then 48 else 44, [some (.ref 19), some (.int p0), some (.int p1), some (.int p2), some (.int p3), some (.int p4), some (.int (-9)), some (.int v3)], [.int (gI s3 1228), .ref 19], s3)) 6 rfl ?_
    rcases cnd_some h with ⟨hc, h⟩ | ⟨hc, h⟩
    · refine RU.tt hc ?_
      refine RU.blk (C' := (bif cEq v3 0 then 63 else 58, [some (.ref 19), some (.int p0), some (.int p1), some (.int p2), some (.int p3), some (.int p4), some (.int (-9)), some (.int v3)], [], (sI s3 1228 ((gI s3 1228) + (0))))) 5 rfl ?_
      rcases cnd_some h with ⟨hc, h⟩ | ⟨hc, h⟩
      · refine RU.tt hc ?_
        refine RU.blk (C' := (65, [some (.ref 19), some (.int p0), some (.int p1), some (.int p2), some (.int p3), some (.int p4), some (.int (-9)), some (.int v3)], [.int (-9)], (sI s3 1228 ((gI s3 1228) + (0))))) 1 rfl ?_
        obtain ⟨rfl, rfl⟩ := ret_inj h
        exact RU.ret rfl rfl rfl
      · refine RU.ff hc ?_
        refine RU.blk (C' := (65, [some (.ref 19), some (.int p0), some (.int p1), some (.int p2), some (.int p3), some (.int p4), some (.int (-9)), some (.int v3)], [.int (-9)], (sI s3 1228 ((gI s3 1228) + (0))))) 2 rfl ?_
        obtain ⟨rfl, rfl⟩ := ret_inj h
        exact RU.ret rfl rfl rfl
    · refine RU.ff hc ?_
      refine RU.blk (C' := (bif cEq v3 0 then 63 else 58, [some (.ref 19), some (.int p0), some (.int p1), some (.int p2), some (.int p3), some (.int p4), some (.int (-9)), some (.int v3)], [], (sI s3 1228 ((gI s3 1228) + (1))))) 6 rfl ?_
      rcases cnd_some h with ⟨hc, h⟩ | ⟨hc, h⟩
      · refine RU.tt hc ?_
        refine RU.blk (C' := (65, [some (.ref 19), some (.int p0), some (.int p1), some (.int p2), some (.int p3), some (.int p4), some (.int (-9)), some (.int v3)], [.int (-9)], (sI s3 1228 ((gI s3 1228) + (1))))) 1 rfl ?_
        obtain ⟨rfl, rfl⟩ := ret_inj h
        exact RU.ret rfl rfl rfl
      · refine RU.ff hc ?_
        refine RU.blk (C' := (65, [some (.ref 19), some (.int p0), some (.int p1), some (.int p2), some (.int p3), some (.int p4), some (.int (-9)), some (.int v3)], [.int (-9)], (sI s3 1228 ((gI s3 1228) + (1))))) 2 rfl ?_
        obtain ⟨rfl, rfl⟩ := ret_inj h
        exact RU.ret rfl rfl rfl
noncomputable def L_X5_readsFloor  : Nat → Int32 → Int32 → Int32 → Int32 → PS → Option (Int32 × PS)
  | 0, _, _, _, _, _ => none
  | n + 1, x1, x2, x3, x4, σ => 
    bif cEq x3 0 then (
      bif okb x3 then some (x3, σ) else none
    ) else (
      bif cGe x4 ((gI σ 1229) * (gI σ 1230)) then (
        bif okb x3 then some (x3, σ) else none
      ) else (
        (F_X5_figure x1 x2 (0) (0) (9) σ).bind fun q1 =>
        let v1 := q1.1
        let s1 := q1.2
        bif vin x4 36 then
        bif vin x4 36 then
        bif cLt (gA (sA s1 23 (Int32.toNatClampNeg x4) v1) 23 (Int32.toNatClampNeg x4)) 0 then (
          L_X5_readsFloor n  x1 x2 (0) (x4 + (1)) (sA s1 23 (Int32.toNatClampNeg x4) v1)
        ) else (
          L_X5_readsFloor n  x1 x2 (1) (x4 + (1)) (sA s1 23 (Int32.toNatClampNeg x4) v1)
        )
        else none
        else none
      )
    )
set_option maxRecDepth 50000 in
theorem ml_X5_readsFloor  (n : Nat) : (∀ (x1 : Int32) (x2 : Int32) (x3 : Int32) (x4 : Int32) (σ : PS) (v : Int32) (σ' : PS), L_X5_readsFloor n x1 x2 x3 x4 σ = some (v, σ') → RU ubX5_readsFloor 2 52 (47, [some (.ref 19), some (.int x1), some (.int x2), some (.int x3), some (.int x4)], [], σ) (some (.int v)) σ') := by
  induction n with
  | zero =>
    intro x1 x2 x3 x4 σ v σ' h; exact absurd (show (none : Option (Int32 × PS)) = some (v, σ') from h) (by simp)
  | succ n ih =>
    intro x1 x2 x3 x4 σ v σ' h
    rw [L_X5_readsFloor] at h
    refine RU.blk (C' := (bif cEq x3 0 then 104 else 51, [some (.ref 19), some (.int x1), some (.int x2), some (.int x3), some (.int x4)], [], σ)) 2 rfl ?_
    rcases cnd_some h with ⟨hc, h⟩ | ⟨hc, h⟩
    · refine RU.tt hc ?_
      refine RU.blk (C' := (105, [some (.ref 19), some (.int x1), some (.int x2), some (.int x3), some (.int x4)], [.int x3], σ)) 1 rfl ?_
      obtain ⟨hb, h⟩ := cnd_n h
      obtain ⟨rfl, rfl⟩ := ret_inj h
      exact RU.ret rfl (pret_b hb) rfl
    · refine RU.ff hc ?_
      refine RU.blk (C' := (bif cGe x4 ((gI σ 1229) * (gI σ 1230)) then 104 else 65, [some (.ref 19), some (.int x1), some (.int x2), some (.int x3), some (.int x4)], [], σ)) 7 rfl ?_
      rcases cnd_some h with ⟨hc, h⟩ | ⟨hc, h⟩
      · refine RU.tt hc ?_
        refine RU.blk (C' := (105, [some (.ref 19), some (.int x1), some (.int x2), some (.int x3), some (.int x4)], [.int x3], σ)) 1 rfl ?_
        obtain ⟨hb, h⟩ := cnd_n h
        obtain ⟨rfl, rfl⟩ := ret_inj h
        exact RU.ret rfl (pret_b hb) rfl
      · refine RU.ff hc ?_
        refine RU.blk (C' := (78, [some (.ref 19), some (.int x1), some (.int x2), some (.int x3), some (.int x4)], [.int (9), .int (0), .int (0), .int x2, .int x1, .ref 19, .int x4, .ref 23], σ)) 9 rfl ?_
        obtain ⟨⟨v1, s1⟩, hk, h⟩ := Option.bind_eq_some_iff.mp h
        dsimp only at h
        refine RU.call (as := [.ref 19, .int x1, .int x2, .int (0), .int (0), .int (9)]) (rest := [.int x4, .ref 23]) (u := some (.int v1)) (C' := (81, [some (.ref 19), some (.int x1), some (.int x2), some (.int x3), some (.int x4)], [.int v1, .int x4, .ref 23], s1)) rfl rfl (m_X5_figure x1 x2 (0) (0) (9) σ hk) rfl rfl ?_
        obtain ⟨hv, h⟩ := cnd_n h
        refine RU.iast (N := 36) rfl rfl hv ?_
        refine RU.blk (C' := (88, [some (.ref 19), some (.int x1), some (.int x2), some (.int x3), some (.int x4)], [.int x4, .ref 23], (sA s1 23 (Int32.toNatClampNeg x4) v1))) 3 rfl ?_
        obtain ⟨hv, h⟩ := cnd_n h
        refine RU.iald (N := 36) rfl rfl hv ?_
        refine RU.blk (C' := (bif cLt (gA (sA s1 23 (Int32.toNatClampNeg x4) v1) 23 (Int32.toNatClampNeg x4)) 0 then 96 else 92, [some (.ref 19), some (.int x1), some (.int x2), some (.int x3), some (.int x4)], [], (sA s1 23 (Int32.toNatClampNeg x4) v1))) 1 rfl ?_
        rcases cnd_some h with ⟨hc, h⟩ | ⟨hc, h⟩
        · refine RU.tt hc ?_
          refine RU.blk (C' := (47, [some (.ref 19), some (.int x1), some (.int x2), some (.int (0)), some (.int (x4 + (1)))], [], (sA s1 23 (Int32.toNatClampNeg x4) v1))) 4 rfl ?_
          exact ih x1 x2 (0) (x4 + (1)) _ _ _ h
        · refine RU.ff hc ?_
          refine RU.blk (C' := (47, [some (.ref 19), some (.int x1), some (.int x2), some (.int (1)), some (.int (x4 + (1)))], [], (sA s1 23 (Int32.toNatClampNeg x4) v1))) 5 rfl ?_
          exact ih x1 x2 (1) (x4 + (1)) _ _ _ h
noncomputable def F_X5_readsFloor (p0 : Int32) (p1 : Int32) (σ : PS) : Option (Int32 × PS) :=
  (F_X5_figure p0 p1 (0) (2) (6) σ).bind fun q2 =>
  let v2 := q2.1
  let s2 := q2.2
  (F_X5_figure p0 p1 (gI (sI s2 1229 v2) 1229) (2) (6) (sI s2 1229 v2)).bind fun q3 =>
  let v3 := q3.1
  let s3 := q3.2
  bif cLe (gI (sI s3 1230 v3) 1230) 0 then (
    L_X5_readsFloor fuelN  p0 p1 (0) (0) (sI s3 1230 v3)
  ) else (
    L_X5_readsFloor fuelN  p0 p1 (1) (0) (sI s3 1230 v3)
  )
set_option maxRecDepth 50000 in
theorem m_X5_readsFloor (p0 : Int32) (p1 : Int32) (σ : PS) {v : Int32} {σ' : PS} (h : F_X5_readsFloor p0 p1 σ = some (v, σ')) : PR 134 [.ref 19, .int p0, .int p1] σ (some (.int v)) σ' := by
  refine PR.enter (L := [some (.ref 19), some (.int p0), some (.int p1), none, none]) uT_134 uD_134 rfl rfl ?_
  unfold F_X5_readsFloor at h
  refine RU.blk (C' := (8, [some (.ref 19), some (.int p0), some (.int p1), none, none], [.int (6), .int (2), .int (0), .int p1, .int p0, .ref 19, .ref 19], σ)) 7 rfl ?_
  obtain ⟨⟨v2, s2⟩, hk, h⟩ := Option.bind_eq_some_iff.mp h
  dsimp only at h
  refine RU.call (as := [.ref 19, .int p0, .int p1, .int (0), .int (2), .int (6)]) (rest := [.ref 19]) (u := some (.int v2)) (C' := (11, [some (.ref 19), some (.int p0), some (.int p1), none, none], [.int v2, .ref 19], s2)) rfl rfl (m_X5_figure p0 p1 (0) (2) (6) σ hk) rfl rfl ?_
  refine RU.blk (C' := (25, [some (.ref 19), some (.int p0), some (.int p1), none, none], [.int (6), .int (2), .int (gI (sI s2 1229 v2) 1229), .int p1, .int p0, .ref 19, .ref 19], (sI s2 1229 v2))) 9 rfl ?_
  obtain ⟨⟨v3, s3⟩, hk, h⟩ := Option.bind_eq_some_iff.mp h
  dsimp only at h
  refine RU.call (as := [.ref 19, .int p0, .int p1, .int (gI (sI s2 1229 v2) 1229), .int (2), .int (6)]) (rest := [.ref 19]) (u := some (.int v3)) (C' := (28, [some (.ref 19), some (.int p0), some (.int p1), none, none], [.int v3, .ref 19], s3)) rfl rfl (m_X5_figure p0 p1 (gI (sI s2 1229 v2) 1229) (2) (6) (sI s2 1229 v2) hk) rfl rfl ?_
  refine RU.blk (C' := (bif cLe (gI (sI s3 1230 v3) 1230) 0 then 42 else 38, [some (.ref 19), some (.int p0), some (.int p1), none, none], [], (sI s3 1230 v3))) 4 rfl ?_
  rcases cnd_some h with ⟨hc, h⟩ | ⟨hc, h⟩
  · refine RU.tt hc ?_
    refine RU.blk (C' := (47, [some (.ref 19), some (.int p0), some (.int p1), some (.int (0)), some (.int (0))], [], (sI s3 1230 v3))) 4 rfl ?_
    exact (ml_X5_readsFloor fuelN) p0 p1 (0) (0) _ _ _ h
  · refine RU.ff hc ?_
    refine RU.blk (C' := (47, [some (.ref 19), some (.int p0), some (.int p1), some (.int (1)), some (.int (0))], [], (sI s3 1230 v3))) 5 rfl ?_
    exact (ml_X5_readsFloor fuelN) p0 p1 (1) (0) _ _ _ h
noncomputable def F_X5_readsLooker (p0 : Int32) (p1 : Int32) (σ : PS) : Option (Int32 × PS) :=
  (F_X5_codeAt p0 p1 σ).bind fun q1 =>
  let v1 := q1.1
  let s1 := q1.2
  bif cNe v1 (59) then (
    some ((0), s1)
  ) else (
    bif cEq (gI s1 1231) (4) then (
      some ((0), s1)
    ) else (
      bif cNe (gI s1 1231) (gI s1 1229) then (
        (F_X5_codeAt p0 p1 (sI s1 1228 ((gI s1 1228) + (1)))).bind fun q2 =>
        let v2 := q2.1
        let s2 := q2.2
        bif cEq v2 (112) then (
          bif cNe v2 (112) then (
            bif cNe v2 (100) then (
              bif vin (gI (sI s2 1228 ((gI s2 1228) + (1))) 1231) 4 then
              (F_X5_figure p0 p1 (0) (0) (9) (sA (sI s2 1228 ((gI s2 1228) + (1))) 24 (Int32.toNatClampNeg (gI (sI s2 1228 ((gI s2 1228) + (1))) 1231)) (2))).bind fun q3 =>
              let v3 := q3.1
              let s3 := q3.2
              bif vin (gI (sA (sI s2 1228 ((gI s2 1228) + (1))) 24 (Int32.toNatClampNeg (gI (sI s2 1228 ((gI s2 1228) + (1))) 1231)) (2)) 1231) 4 then
              bif vin ((gI (sI (sA s3 25 (Int32.toNatClampNeg (gI (sA (sI s2 1228 ((gI s2 1228) + (1))) 24 (Int32.toNatClampNeg (gI (sI s2 1228 ((gI s2 1228) + (1))) 1231)) (2)) 1231)) v3) 1231 ((gI (sA s3 25 (Int32.toNatClampNeg (gI (sA (sI s2 1228 ((gI s2 1228) + (1))) 24 (Int32.toNatClampNeg (gI (sI s2 1228 ((gI s2 1228) + (1))) 1231)) (2)) 1231)) v3) 1231) + (1))) 1231) - (1)) 4 then
              bif cLt (gA (sI (sA s3 25 (Int32.toNatClampNeg (gI (sA (sI s2 1228 ((gI s2 1228) + (1))) 24 (Int32.toNatClampNeg (gI (sI s2 1228 ((gI s2 1228) + (1))) 1231)) (2)) 1231)) v3) 1231 ((gI (sA s3 25 (Int32.toNatClampNeg (gI (sA (sI s2 1228 ((gI s2 1228) + (1))) 24 (Int32.toNatClampNeg (gI (sI s2 1228 ((gI s2 1228) + (1))) 1231)) (2)) 1231)) v3) 1231) + (1))) 25 (Int32.toNatClampNeg ((gI (sI (sA s3 25 (Int32.toNatClampNeg (gI (sA (sI s2 1228 ((gI s2 1228) + (1))) 24 (Int32.toNatClampNeg (gI (sI s2 1228 ((gI s2 1228) + (1))) 1231)) (2)) 1231)) v3) 1231 ((gI (sA s3 25 (Int32.toNatClampNeg (gI (sA (sI s2 1228 ((gI s2 1228) + (1))) 24 (Int32.toNatClampNeg (gI (sI s2 1228 ((gI s2 1228) + (1))) 1231)) (2)) 1231)) v3) 1231) + (1))) 1231) - (1)))) 0 then (
                some ((0), (sI (sA s3 25 (Int32.toNatClampNeg (gI (sA (sI s2 1228 ((gI s2 1228) + (1))) 24 (Int32.toNatClampNeg (gI (sI s2 1228 ((gI s2 1228) + (1))) 1231)) (2)) 1231)) v3) 1231 ((gI (sA s3 25 (Int32.toNatClampNeg (gI (sA (sI s2 1228 ((gI s2 1228) + (1))) 24 (Int32.toNatClampNeg (gI (sI s2 1228 ((gI s2 1228) + (1))) 1231)) (2)) 1231)) v3) 1231) + (1))))
              ) else (
                some ((1), (sI (sA s3 25 (Int32.toNatClampNeg (gI (sA (sI s2 1228 ((gI s2 1228) + (1))) 24 (Int32.toNatClampNeg (gI (sI s2 1228 ((gI s2 1228) + (1))) 1231)) (2)) 1231)) v3) 1231 ((gI (sA s3 25 (Int32.toNatClampNeg (gI (sA (sI s2 1228 ((gI s2 1228) + (1))) 24 (Int32.toNatClampNeg (gI (sI s2 1228 ((gI s2 1228) + (1))) 1231)) (2)) 1231)) v3) 1231) + (1))))
              )
              else none
              else none
              else none
            ) else (
              bif vin (gI (sI s2 1228 ((gI s2 1228) + (1))) 1231) 4 then
              (F_X5_figure p0 p1 (0) (0) (9) (sA (sI s2 1228 ((gI s2 1228) + (1))) 24 (Int32.toNatClampNeg (gI (sI s2 1228 ((gI s2 1228) + (1))) 1231)) (1))).bind fun q4 =>
              let v4 := q4.1
              let s4 := q4.2
              bif vin (gI (sA (sI s2 1228 ((gI s2 1228) + (1))) 24 (Int32.toNatClampNeg (gI (sI s2 1228 ((gI s2 1228) + (1))) 1231)) (1)) 1231) 4 then
              bif vin ((gI (sI (sA s4 25 (Int32.toNatClampNeg (gI (sA (sI s2 1228 ((gI s2 1228) + (1))) 24 (Int32.toNatClampNeg (gI (sI s2 1228 ((gI s2 1228) + (1))) 1231)) (1)) 1231)) v4) 1231 ((gI (sA s4 25 (Int32.toNatClampNeg (gI (sA (sI s2 1228 ((gI s2 1228) + (1))) 24 (Int32.toNatClampNeg (gI (sI s2 1228 ((gI s2 1228) + (1))) 1231)) (1)) 1231)) v4) 1231) + (1))) 1231) - (1)) 4 then
              bif cLt (gA (sI (sA s4 25 (Int32.toNatClampNeg (gI (sA (sI s2 1228 ((gI s2 1228) + (1))) 24 (Int32.toNatClampNeg (gI (sI s2 1228 ((gI s2 1228) + (1))) 1231)) (1)) 1231)) v4) 1231 ((gI (sA s4 25 (Int32.toNatClampNeg (gI (sA (sI s2 1228 ((gI s2 1228) + (1))) 24 (Int32.toNatClampNeg (gI (sI s2 1228 ((gI s2 1228) + (1))) 1231)) (1)) 1231)) v4) 1231) + (1))) 25 (Int32.toNatClampNeg ((gI (sI (sA s4 25 (Int32.toNatClampNeg (gI (sA (sI s2 1228 ((gI s2 1228) + (1))) 24 (Int32.toNatClampNeg (gI (sI s2 1228 ((gI s2 1228) + (1))) 1231)) (1)) 1231)) v4) 1231 ((gI (sA s4 25 (Int32.toNatClampNeg (gI (sA (sI s2 1228 ((gI s2 1228) + (1))) 24 (Int32.toNatClampNeg (gI (sI s2 1228 ((gI s2 1228) + (1))) 1231)) (1)) 1231)) v4) 1231) + (1))) 1231) - (1)))) 0 then (
                some ((0), (sI (sA s4 25 (Int32.toNatClampNeg (gI (sA (sI s2 1228 ((gI s2 1228) + (1))) 24 (Int32.toNatClampNeg (gI (sI s2 1228 ((gI s2 1228) + (1))) 1231)) (1)) 1231)) v4) 1231 ((gI (sA s4 25 (Int32.toNatClampNeg (gI (sA (sI s2 1228 ((gI s2 1228) + (1))) 24 (Int32.toNatClampNeg (gI (sI s2 1228 ((gI s2 1228) + (1))) 1231)) (1)) 1231)) v4) 1231) + (1))))
              ) else (
                some ((1), (sI (sA s4 25 (Int32.toNatClampNeg (gI (sA (sI s2 1228 ((gI s2 1228) + (1))) 24 (Int32.toNatClampNeg (gI (sI s2 1228 ((gI s2 1228) + (1))) 1231)) (1)) 1231)) v4) 1231 ((gI (sA s4 25 (Int32.toNatClampNeg (gI (sA (sI s2 1228 ((gI s2 1228) + (1))) 24 (Int32.toNatClampNeg (gI (sI s2 1228 ((gI s2 1228) + (1))) 1231)) (1)) 1231)) v4) 1231) + (1))))
              )
              else none
              else none
              else none
            )
          ) else (
            bif vin (gI (sI s2 1228 ((gI s2 1228) + (1))) 1231) 4 then
            (F_X5_figure p0 p1 (0) (0) (9) (sA (sI s2 1228 ((gI s2 1228) + (1))) 24 (Int32.toNatClampNeg (gI (sI s2 1228 ((gI s2 1228) + (1))) 1231)) (0))).bind fun q5 =>
            let v5 := q5.1
            let s5 := q5.2
            bif vin (gI (sA (sI s2 1228 ((gI s2 1228) + (1))) 24 (Int32.toNatClampNeg (gI (sI s2 1228 ((gI s2 1228) + (1))) 1231)) (0)) 1231) 4 then
            bif vin ((gI (sI (sA s5 25 (Int32.toNatClampNeg (gI (sA (sI s2 1228 ((gI s2 1228) + (1))) 24 (Int32.toNatClampNeg (gI (sI s2 1228 ((gI s2 1228) + (1))) 1231)) (0)) 1231)) v5) 1231 ((gI (sA s5 25 (Int32.toNatClampNeg (gI (sA (sI s2 1228 ((gI s2 1228) + (1))) 24 (Int32.toNatClampNeg (gI (sI s2 1228 ((gI s2 1228) + (1))) 1231)) (0)) 1231)) v5) 1231) + (1))) 1231) - (1)) 4 then
            bif cLt (gA (sI (sA s5 25 (Int32.toNatClampNeg (gI (sA (sI s2 1228 ((gI s2 1228) + (1))) 24 (Int32.toNatClampNeg (gI (sI s2 1228 ((gI s2 1228) + (1))) 1231)) (0)) 1231)) v5) 1231 ((gI (sA s5 25 (Int32.toNatClampNeg (gI (sA (sI s2 1228 ((gI s2 1228) + (1))) 24 (Int32.toNatClampNeg (gI (sI s2 1228 ((gI s2 1228) + (1))) 1231)) (0)) 1231)) v5) 1231) + (1))) 25 (Int32.toNatClampNeg ((gI (sI (sA s5 25 (Int32.toNatClampNeg (gI (sA (sI s2 1228 ((gI s2 1228) + (1))) 24 (Int32.toNatClampNeg (gI (sI s2 1228 ((gI s2 1228) + (1))) 1231)) (0)) 1231)) v5) 1231 ((gI (sA s5 25 (Int32.toNatClampNeg (gI (sA (sI s2 1228 ((gI s2 1228) + (1))) 24 (Int32.toNatClampNeg (gI (sI s2 1228 ((gI s2 1228) + (1))) 1231)) (0)) 1231)) v5) 1231) + (1))) 1231) - (1)))) 0 then (
              some ((0), (sI (sA s5 25 (Int32.toNatClampNeg (gI (sA (sI s2 1228 ((gI s2 1228) + (1))) 24 (Int32.toNatClampNeg (gI (sI s2 1228 ((gI s2 1228) + (1))) 1231)) (0)) 1231)) v5) 1231 ((gI (sA s5 25 (Int32.toNatClampNeg (gI (sA (sI s2 1228 ((gI s2 1228) + (1))) 24 (Int32.toNatClampNeg (gI (sI s2 1228 ((gI s2 1228) + (1))) 1231)) (0)) 1231)) v5) 1231) + (1))))
            ) else (
              some ((1), (sI (sA s5 25 (Int32.toNatClampNeg (gI (sA (sI s2 1228 ((gI s2 1228) + (1))) 24 (Int32.toNatClampNeg (gI (sI s2 1228 ((gI s2 1228) + (1))) 1231)) (0)) 1231)) v5) 1231 ((gI (sA s5 25 (Int32.toNatClampNeg (gI (sA (sI s2 1228 ((gI s2 1228) + (1))) 24 (Int32.toNatClampNeg (gI (sI s2 1228 ((gI s2 1228) + (1))) 1231)) (0)) 1231)) v5) 1231) + (1))))
            )
            else none
            else none
            else none
          )
        ) else (
          bif cEq v2 (100) then (
            bif cNe v2 (112) then (
              bif cNe v2 (100) then (
                bif vin (gI (sI s2 1228 ((gI s2 1228) + (1))) 1231) 4 then
                (F_X5_figure p0 p1 (0) (0) (9) (sA (sI s2 1228 ((gI s2 1228) + (1))) 24 (Int32.toNatClampNeg (gI (sI s2 1228 ((gI s2 1228) + (1))) 1231)) (2))).bind fun q6 =>
                let v6 := q6.1
                let s6 := q6.2
                bif vin (gI (sA (sI s2 1228 ((gI s2 1228) + (1))) 24 (Int32.toNatClampNeg (gI (sI s2 1228 ((gI s2 1228) + (1))) 1231)) (2)) 1231) 4 then
                bif vin ((gI (sI (sA s6 25 (Int32.toNatClampNeg (gI (sA (sI s2 1228 ((gI s2 1228) + (1))) 24 (Int32.toNatClampNeg (gI (sI s2 1228 ((gI s2 1228) + (1))) 1231)) (2)) 1231)) v6) 1231 ((gI (sA s6 25 (Int32.toNatClampNeg (gI (sA (sI s2 1228 ((gI s2 1228) + (1))) 24 (Int32.toNatClampNeg (gI (sI s2 1228 ((gI s2 1228) + (1))) 1231)) (2)) 1231)) v6) 1231) + (1))) 1231) - (1)) 4 then
                bif cLt (gA (sI (sA s6 25 (Int32.toNatClampNeg (gI (sA (sI s2 1228 ((gI s2 1228) + (1))) 24 (Int32.toNatClampNeg (gI (sI s2 1228 ((gI s2 1228) + (1))) 1231)) (2)) 1231)) v6) 1231 ((gI (sA s6 25 (Int32.toNatClampNeg (gI (sA (sI s2 1228 ((gI s2 1228) + (1))) 24 (Int32.toNatClampNeg (gI (sI s2 1228 ((gI s2 1228) + (1))) 1231)) (2)) 1231)) v6) 1231) + (1))) 25 (Int32.toNatClampNeg ((gI (sI (sA s6 25 (Int32.toNatClampNeg (gI (sA (sI s2 1228 ((gI s2 1228) + (1))) 24 (Int32.toNatClampNeg (gI (sI s2 1228 ((gI s2 1228) + (1))) 1231)) (2)) 1231)) v6) 1231 ((gI (sA s6 25 (Int32.toNatClampNeg (gI (sA (sI s2 1228 ((gI s2 1228) + (1))) 24 (Int32.toNatClampNeg (gI (sI s2 1228 ((gI s2 1228) + (1))) 1231)) (2)) 1231)) v6) 1231) + (1))) 1231) - (1)))) 0 then (
                  some ((0), (sI (sA s6 25 (Int32.toNatClampNeg (gI (sA (sI s2 1228 ((gI s2 1228) + (1))) 24 (Int32.toNatClampNeg (gI (sI s2 1228 ((gI s2 1228) + (1))) 1231)) (2)) 1231)) v6) 1231 ((gI (sA s6 25 (Int32.toNatClampNeg (gI (sA (sI s2 1228 ((gI s2 1228) + (1))) 24 (Int32.toNatClampNeg (gI (sI s2 1228 ((gI s2 1228) + (1))) 1231)) (2)) 1231)) v6) 1231) + (1))))
                ) else (
                  some ((1), (sI (sA s6 25 (Int32.toNatClampNeg (gI (sA (sI s2 1228 ((gI s2 1228) + (1))) 24 (Int32.toNatClampNeg (gI (sI s2 1228 ((gI s2 1228) + (1))) 1231)) (2)) 1231)) v6) 1231 ((gI (sA s6 25 (Int32.toNatClampNeg (gI (sA (sI s2 1228 ((gI s2 1228) + (1))) 24 (Int32.toNatClampNeg (gI (sI s2 1228 ((gI s2 1228) + (1))) 1231)) (2)) 1231)) v6) 1231) + (1))))
                )
                else none
                else none
                else none
              ) else (
                bif vin (gI (sI s2 1228 ((gI s2 1228) + (1))) 1231) 4 then
                (F_X5_figure p0 p1 (0) (0) (9) (sA (sI s2 1228 ((gI s2 1228) + (1))) 24 (Int32.toNatClampNeg (gI (sI s2 1228 ((gI s2 1228) + (1))) 1231)) (1))).bind fun q7 =>
                let v7 := q7.1
                let s7 := q7.2
                bif vin (gI (sA (sI s2 1228 ((gI s2 1228) + (1))) 24 (Int32.toNatClampNeg (gI (sI s2 1228 ((gI s2 1228) + (1))) 1231)) (1)) 1231) 4 then
                bif vin ((gI (sI (sA s7 25 (Int32.toNatClampNeg (gI (sA (sI s2 1228 ((gI s2 1228) + (1))) 24 (Int32.toNatClampNeg (gI (sI s2 1228 ((gI s2 1228) + (1))) 1231)) (1)) 1231)) v7) 1231 ((gI (sA s7 25 (Int32.toNatClampNeg (gI (sA (sI s2 1228 ((gI s2 1228) + (1))) 24 (Int32.toNatClampNeg (gI (sI s2 1228 ((gI s2 1228) + (1))) 1231)) (1)) 1231)) v7) 1231) + (1))) 1231) - (1)) 4 then
                bif cLt (gA (sI (sA s7 25 (Int32.toNatClampNeg (gI (sA (sI s2 1228 ((gI s2 1228) + (1))) 24 (Int32.toNatClampNeg (gI (sI s2 1228 ((gI s2 1228) + (1))) 1231)) (1)) 1231)) v7) 1231 ((gI (sA s7 25 (Int32.toNatClampNeg (gI (sA (sI s2 1228 ((gI s2 1228) + (1))) 24 (Int32.toNatClampNeg (gI (sI s2 1228 ((gI s2 1228) + (1))) 1231)) (1)) 1231)) v7) 1231) + (1))) 25 (Int32.toNatClampNeg ((gI (sI (sA s7 25 (Int32.toNatClampNeg (gI (sA (sI s2 1228 ((gI s2 1228) + (1))) 24 (Int32.toNatClampNeg (gI (sI s2 1228 ((gI s2 1228) + (1))) 1231)) (1)) 1231)) v7) 1231 ((gI (sA s7 25 (Int32.toNatClampNeg (gI (sA (sI s2 1228 ((gI s2 1228) + (1))) 24 (Int32.toNatClampNeg (gI (sI s2 1228 ((gI s2 1228) + (1))) 1231)) (1)) 1231)) v7) 1231) + (1))) 1231) - (1)))) 0 then (
                  some ((0), (sI (sA s7 25 (Int32.toNatClampNeg (gI (sA (sI s2 1228 ((gI s2 1228) + (1))) 24 (Int32.toNatClampNeg (gI (sI s2 1228 ((gI s2 1228) + (1))) 1231)) (1)) 1231)) v7) 1231 ((gI (sA s7 25 (Int32.toNatClampNeg (gI (sA (sI s2 1228 ((gI s2 1228) + (1))) 24 (Int32.toNatClampNeg (gI (sI s2 1228 ((gI s2 1228) + (1))) 1231)) (1)) 1231)) v7) 1231) + (1))))
                ) else (
                  some ((1), (sI (sA s7 25 (Int32.toNatClampNeg (gI (sA (sI s2 1228 ((gI s2 1228) + (1))) 24 (Int32.toNatClampNeg (gI (sI s2 1228 ((gI s2 1228) + (1))) 1231)) (1)) 1231)) v7) 1231 ((gI (sA s7 25 (Int32.toNatClampNeg (gI (sA (sI s2 1228 ((gI s2 1228) + (1))) 24 (Int32.toNatClampNeg (gI (sI s2 1228 ((gI s2 1228) + (1))) 1231)) (1)) 1231)) v7) 1231) + (1))))
                )
                else none
                else none
                else none
              )
            ) else (
              bif vin (gI (sI s2 1228 ((gI s2 1228) + (1))) 1231) 4 then
              (F_X5_figure p0 p1 (0) (0) (9) (sA (sI s2 1228 ((gI s2 1228) + (1))) 24 (Int32.toNatClampNeg (gI (sI s2 1228 ((gI s2 1228) + (1))) 1231)) (0))).bind fun q8 =>
              let v8 := q8.1
              let s8 := q8.2
              bif vin (gI (sA (sI s2 1228 ((gI s2 1228) + (1))) 24 (Int32.toNatClampNeg (gI (sI s2 1228 ((gI s2 1228) + (1))) 1231)) (0)) 1231) 4 then
              bif vin ((gI (sI (sA s8 25 (Int32.toNatClampNeg (gI (sA (sI s2 1228 ((gI s2 1228) + (1))) 24 (Int32.toNatClampNeg (gI (sI s2 1228 ((gI s2 1228) + (1))) 1231)) (0)) 1231)) v8) 1231 ((gI (sA s8 25 (Int32.toNatClampNeg (gI (sA (sI s2 1228 ((gI s2 1228) + (1))) 24 (Int32.toNatClampNeg (gI (sI s2 1228 ((gI s2 1228) + (1))) 1231)) (0)) 1231)) v8) 1231) + (1))) 1231) - (1)) 4 then
              bif cLt (gA (sI (sA s8 25 (Int32.toNatClampNeg (gI (sA (sI s2 1228 ((gI s2 1228) + (1))) 24 (Int32.toNatClampNeg (gI (sI s2 1228 ((gI s2 1228) + (1))) 1231)) (0)) 1231)) v8) 1231 ((gI (sA s8 25 (Int32.toNatClampNeg (gI (sA (sI s2 1228 ((gI s2 1228) + (1))) 24 (Int32.toNatClampNeg (gI (sI s2 1228 ((gI s2 1228) + (1))) 1231)) (0)) 1231)) v8) 1231) + (1))) 25 (Int32.toNatClampNeg ((gI (sI (sA s8 25 (Int32.toNatClampNeg (gI (sA (sI s2 1228 ((gI s2 1228) + (1))) 24 (Int32.toNatClampNeg (gI (sI s2 1228 ((gI s2 1228) + (1))) 1231)) (0)) 1231)) v8) 1231 ((gI (sA s8 25 (Int32.toNatClampNeg (gI (sA (sI s2 1228 ((gI s2 1228) + (1))) 24 (Int32.toNatClampNeg (gI (sI s2 1228 ((gI s2 1228) + (1))) 1231)) (0)) 1231)) v8) 1231) + (1))) 1231) - (1)))) 0 then (
                some ((0), (sI (sA s8 25 (Int32.toNatClampNeg (gI (sA (sI s2 1228 ((gI s2 1228) + (1))) 24 (Int32.toNatClampNeg (gI (sI s2 1228 ((gI s2 1228) + (1))) 1231)) (0)) 1231)) v8) 1231 ((gI (sA s8 25 (Int32.toNatClampNeg (gI (sA (sI s2 1228 ((gI s2 1228) + (1))) 24 (Int32.toNatClampNeg (gI (sI s2 1228 ((gI s2 1228) + (1))) 1231)) (0)) 1231)) v8) 1231) + (1))))
              ) else (
                some ((1), (sI (sA s8 25 (Int32.toNatClampNeg (gI (sA (sI s2 1228 ((gI s2 1228) + (1))) 24 (Int32.toNatClampNeg (gI (sI s2 1228 ((gI s2 1228) + (1))) 1231)) (0)) 1231)) v8) 1231 ((gI (sA s8 25 (Int32.toNatClampNeg (gI (sA (sI s2 1228 ((gI s2 1228) + (1))) 24 (Int32.toNatClampNeg (gI (sI s2 1228 ((gI s2 1228) + (1))) 1231)) (0)) 1231)) v8) 1231) + (1))))
              )
              else none
              else none
              else none
            )
          ) else (
            bif cEq v2 (103) then (
              bif cNe v2 (112) then (
                bif cNe v2 (100) then (
                  bif vin (gI (sI s2 1228 ((gI s2 1228) + (1))) 1231) 4 then
                  (F_X5_figure p0 p1 (0) (0) (9) (sA (sI s2 1228 ((gI s2 1228) + (1))) 24 (Int32.toNatClampNeg (gI (sI s2 1228 ((gI s2 1228) + (1))) 1231)) (2))).bind fun q9 =>
                  let v9 := q9.1
                  let s9 := q9.2
                  bif vin (gI (sA (sI s2 1228 ((gI s2 1228) + (1))) 24 (Int32.toNatClampNeg (gI (sI s2 1228 ((gI s2 1228) + (1))) 1231)) (2)) 1231) 4 then
                  bif vin ((gI (sI (sA s9 25 (Int32.toNatClampNeg (gI (sA (sI s2 1228 ((gI s2 1228) + (1))) 24 (Int32.toNatClampNeg (gI (sI s2 1228 ((gI s2 1228) + (1))) 1231)) (2)) 1231)) v9) 1231 ((gI (sA s9 25 (Int32.toNatClampNeg (gI (sA (sI s2 1228 ((gI s2 1228) + (1))) 24 (Int32.toNatClampNeg (gI (sI s2 1228 ((gI s2 1228) + (1))) 1231)) (2)) 1231)) v9) 1231) + (1))) 1231) - (1)) 4 then
                  bif cLt (gA (sI (sA s9 25 (Int32.toNatClampNeg (gI (sA (sI s2 1228 ((gI s2 1228) + (1))) 24 (Int32.toNatClampNeg (gI (sI s2 1228 ((gI s2 1228) + (1))) 1231)) (2)) 1231)) v9) 1231 ((gI (sA s9 25 (Int32.toNatClampNeg (gI (sA (sI s2 1228 ((gI s2 1228) + (1))) 24 (Int32.toNatClampNeg (gI (sI s2 1228 ((gI s2 1228) + (1))) 1231)) (2)) 1231)) v9) 1231) + (1))) 25 (Int32.toNatClampNeg ((gI (sI (sA s9 25 (Int32.toNatClampNeg (gI (sA (sI s2 1228 ((gI s2 1228) + (1))) 24 (Int32.toNatClampNeg (gI (sI s2 1228 ((gI s2 1228) + (1))) 1231)) (2)) 1231)) v9) 1231 ((gI (sA s9 25 (Int32.toNatClampNeg (gI (sA (sI s2 1228 ((gI s2 1228) + (1))) 24 (Int32.toNatClampNeg (gI (sI s2 1228 ((gI s2 1228) + (1))) 1231)) (2)) 1231)) v9) 1231) + (1))) 1231) - (1)))) 0 then (
                    some ((0), (sI (sA s9 25 (Int32.toNatClampNeg (gI (sA (sI s2 1228 ((gI s2 1228) + (1))) 24 (Int32.toNatClampNeg (gI (sI s2 1228 ((gI s2 1228) + (1))) 1231)) (2)) 1231)) v9) 1231 ((gI (sA s9 25 (Int32.toNatClampNeg (gI (sA (sI s2 1228 ((gI s2 1228) + (1))) 24 (Int32.toNatClampNeg (gI (sI s2 1228 ((gI s2 1228) + (1))) 1231)) (2)) 1231)) v9) 1231) + (1))))
                  ) else (
                    some ((1), (sI (sA s9 25 (Int32.toNatClampNeg (gI (sA (sI s2 1228 ((gI s2 1228) + (1))) 24 (Int32.toNatClampNeg (gI (sI s2 1228 ((gI s2 1228) + (1))) 1231)) (2)) 1231)) v9) 1231 ((gI (sA s9 25 (Int32.toNatClampNeg (gI (sA (sI s2 1228 ((gI s2 1228) + (1))) 24 (Int32.toNatClampNeg (gI (sI s2 1228 ((gI s2 1228) + (1))) 1231)) (2)) 1231)) v9) 1231) + (1))))
                  )
                  else none
                  else none
                  else none
                ) else (
                  bif vin (gI (sI s2 1228 ((gI s2 1228) + (1))) 1231) 4 then
                  (F_X5_figure p0 p1 (0) (0) (9) (sA (sI s2 1228 ((gI s2 1228) + (1))) 24 (Int32.toNatClampNeg (gI (sI s2 1228 ((gI s2 1228) + (1))) 1231)) (1))).bind fun q10 =>
                  let v10 := q10.1
                  let s10 := q10.2
                  bif vin (gI (sA (sI s2 1228 ((gI s2 1228) + (1))) 24 (Int32.toNatClampNeg (gI (sI s2 1228 ((gI s2 1228) + (1))) 1231)) (1)) 1231) 4 then
                  bif vin ((gI (sI (sA s10 25 (Int32.toNatClampNeg (gI (sA (sI s2 1228 ((gI s2 1228) + (1))) 24 (Int32.toNatClampNeg (gI (sI s2 1228 ((gI s2 1228) + (1))) 1231)) (1)) 1231)) v10) 1231 ((gI (sA s10 25 (Int32.toNatClampNeg (gI (sA (sI s2 1228 ((gI s2 1228) + (1))) 24 (Int32.toNatClampNeg (gI (sI s2 1228 ((gI s2 1228) + (1))) 1231)) (1)) 1231)) v10) 1231) + (1))) 1231) - (1)) 4 then
                  bif cLt (gA (sI (sA s10 25 (Int32.toNatClampNeg (gI (sA (sI s2 1228 ((gI s2 1228) + (1))) 24 (Int32.toNatClampNeg (gI (sI s2 1228 ((gI s2 1228) + (1))) 1231)) (1)) 1231)) v10) 1231 ((gI (sA s10 25 (Int32.toNatClampNeg (gI (sA (sI s2 1228 ((gI s2 1228) + (1))) 24 (Int32.toNatClampNeg (gI (sI s2 1228 ((gI s2 1228) + (1))) 1231)) (1)) 1231)) v10) 1231) + (1))) 25 (Int32.toNatClampNeg ((gI (sI (sA s10 25 (Int32.toNatClampNeg (gI (sA (sI s2 1228 ((gI s2 1228) + (1))) 24 (Int32.toNatClampNeg (gI (sI s2 1228 ((gI s2 1228) + (1))) 1231)) (1)) 1231)) v10) 1231 ((gI (sA s10 25 (Int32.toNatClampNeg (gI (sA (sI s2 1228 ((gI s2 1228) + (1))) 24 (Int32.toNatClampNeg (gI (sI s2 1228 ((gI s2 1228) + (1))) 1231)) (1)) 1231)) v10) 1231) + (1))) 1231) - (1)))) 0 then (
                    some ((0), (sI (sA s10 25 (Int32.toNatClampNeg (gI (sA (sI s2 1228 ((gI s2 1228) + (1))) 24 (Int32.toNatClampNeg (gI (sI s2 1228 ((gI s2 1228) + (1))) 1231)) (1)) 1231)) v10) 1231 ((gI (sA s10 25 (Int32.toNatClampNeg (gI (sA (sI s2 1228 ((gI s2 1228) + (1))) 24 (Int32.toNatClampNeg (gI (sI s2 1228 ((gI s2 1228) + (1))) 1231)) (1)) 1231)) v10) 1231) + (1))))
                  ) else (
                    some ((1), (sI (sA s10 25 (Int32.toNatClampNeg (gI (sA (sI s2 1228 ((gI s2 1228) + (1))) 24 (Int32.toNatClampNeg (gI (sI s2 1228 ((gI s2 1228) + (1))) 1231)) (1)) 1231)) v10) 1231 ((gI (sA s10 25 (Int32.toNatClampNeg (gI (sA (sI s2 1228 ((gI s2 1228) + (1))) 24 (Int32.toNatClampNeg (gI (sI s2 1228 ((gI s2 1228) + (1))) 1231)) (1)) 1231)) v10) 1231) + (1))))
                  )
                  else none
                  else none
                  else none
                )
              ) else (
                bif vin (gI (sI s2 1228 ((gI s2 1228) + (1))) 1231) 4 then
                (F_X5_figure p0 p1 (0) (0) (9) (sA (sI s2 1228 ((gI s2 1228) + (1))) 24 (Int32.toNatClampNeg (gI (sI s2 1228 ((gI s2 1228) + (1))) 1231)) (0))).bind fun q11 =>
                let v11 := q11.1
                let s11 := q11.2
                bif vin (gI (sA (sI s2 1228 ((gI s2 1228) + (1))) 24 (Int32.toNatClampNeg (gI (sI s2 1228 ((gI s2 1228) + (1))) 1231)) (0)) 1231) 4 then
                bif vin ((gI (sI (sA s11 25 (Int32.toNatClampNeg (gI (sA (sI s2 1228 ((gI s2 1228) + (1))) 24 (Int32.toNatClampNeg (gI (sI s2 1228 ((gI s2 1228) + (1))) 1231)) (0)) 1231)) v11) 1231 ((gI (sA s11 25 (Int32.toNatClampNeg (gI (sA (sI s2 1228 ((gI s2 1228) + (1))) 24 (Int32.toNatClampNeg (gI (sI s2 1228 ((gI s2 1228) + (1))) 1231)) (0)) 1231)) v11) 1231) + (1))) 1231) - (1)) 4 then
                bif cLt (gA (sI (sA s11 25 (Int32.toNatClampNeg (gI (sA (sI s2 1228 ((gI s2 1228) + (1))) 24 (Int32.toNatClampNeg (gI (sI s2 1228 ((gI s2 1228) + (1))) 1231)) (0)) 1231)) v11) 1231 ((gI (sA s11 25 (Int32.toNatClampNeg (gI (sA (sI s2 1228 ((gI s2 1228) + (1))) 24 (Int32.toNatClampNeg (gI (sI s2 1228 ((gI s2 1228) + (1))) 1231)) (0)) 1231)) v11) 1231) + (1))) 25 (Int32.toNatClampNeg ((gI (sI (sA s11 25 (Int32.toNatClampNeg (gI (sA (sI s2 1228 ((gI s2 1228) + (1))) 24 (Int32.toNatClampNeg (gI (sI s2 1228 ((gI s2 1228) + (1))) 1231)) (0)) 1231)) v11) 1231 ((gI (sA s11 25 (Int32.toNatClampNeg (gI (sA (sI s2 1228 ((gI s2 1228) + (1))) 24 (Int32.toNatClampNeg (gI (sI s2 1228 ((gI s2 1228) + (1))) 1231)) (0)) 1231)) v11) 1231) + (1))) 1231) - (1)))) 0 then (
                  some ((0), (sI (sA s11 25 (Int32.toNatClampNeg (gI (sA (sI s2 1228 ((gI s2 1228) + (1))) 24 (Int32.toNatClampNeg (gI (sI s2 1228 ((gI s2 1228) + (1))) 1231)) (0)) 1231)) v11) 1231 ((gI (sA s11 25 (Int32.toNatClampNeg (gI (sA (sI s2 1228 ((gI s2 1228) + (1))) 24 (Int32.toNatClampNeg (gI (sI s2 1228 ((gI s2 1228) + (1))) 1231)) (0)) 1231)) v11) 1231) + (1))))
                ) else (
                  some ((1), (sI (sA s11 25 (Int32.toNatClampNeg (gI (sA (sI s2 1228 ((gI s2 1228) + (1))) 24 (Int32.toNatClampNeg (gI (sI s2 1228 ((gI s2 1228) + (1))) 1231)) (0)) 1231)) v11) 1231 ((gI (sA s11 25 (Int32.toNatClampNeg (gI (sA (sI s2 1228 ((gI s2 1228) + (1))) 24 (Int32.toNatClampNeg (gI (sI s2 1228 ((gI s2 1228) + (1))) 1231)) (0)) 1231)) v11) 1231) + (1))))
                )
                else none
                else none
                else none
              )
            ) else (
              some ((0), s2)
            )
          )
        )
      ) else (
        some ((0), s1)
      )
    )
  )
set_option maxRecDepth 50000 in
theorem m_X5_readsLooker (p0 : Int32) (p1 : Int32) (σ : PS) {v : Int32} {σ' : PS} (h : F_X5_readsLooker p0 p1 σ = some (v, σ')) : PR 135 [.ref 19, .int p0, .int p1] σ (some (.int v)) σ' := by
  refine PR.enter (L := [some (.ref 19), some (.int p0), some (.int p1), none]) uT_135 uD_135 rfl rfl ?_
  unfold F_X5_readsLooker at h
  refine RU.blk (C' := (3, [some (.ref 19), some (.int p0), some (.int p1), none], [.int p1, .int p0, .ref 19], σ)) 3 rfl ?_
  obtain ⟨⟨v1, s1⟩, hk, h⟩ := Option.bind_eq_some_iff.mp h
  dsimp only at h
  refine RU.call (as := [.ref 19, .int p0, .int p1]) (rest := []) (u := some (.int v1)) (C' := (6, [some (.ref 19), some (.int p0), some (.int p1), none], [.int v1], s1)) rfl rfl (m_X5_codeAt p0 p1 σ hk) rfl rfl ?_
  refine RU.blk (C' := (bif cNe v1 (59) then 30 else 11, [some (.ref 19), some (.int p0), some (.int p1), none], [], s1)) 2 rfl ?_
  rcases cnd_some h with ⟨hc, h⟩ | ⟨hc, h⟩
  · refine RU.tt hc ?_
    refine RU.blk (C' := (31, [some (.ref 19), some (.int p0), some (.int p1), none], [.int (0)], s1)) 1 rfl ?_
    obtain ⟨rfl, rfl⟩ := ret_inj h
    exact RU.ret rfl rfl rfl
  · refine RU.ff hc ?_
    refine RU.blk (C' := (bif cEq (gI s1 1231) (4) then 30 else 19, [some (.ref 19), some (.int p0), some (.int p1), none], [], s1)) 4 rfl ?_
    rcases cnd_some h with ⟨hc, h⟩ | ⟨hc, h⟩
    · refine RU.tt hc ?_
      refine RU.blk (C' := (31, [some (.ref 19), some (.int p0), some (.int p1), none], [.int (0)], s1)) 1 rfl ?_
      obtain ⟨rfl, rfl⟩ := ret_inj h
      exact RU.ret rfl rfl rfl
    · refine RU.ff hc ?_
      refine RU.blk (C' := (bif cNe (gI s1 1231) (gI s1 1229) then 32 else 30, [some (.ref 19), some (.int p0), some (.int p1), none], [], s1)) 5 rfl ?_
      rcases cnd_some h with ⟨hc, h⟩ | ⟨hc, h⟩
      · refine RU.tt hc ?_
        refine RU.blk (C' := (45, [some (.ref 19), some (.int p0), some (.int p1), none], [.int p1, .int p0, .ref 19], (sI s1 1228 ((gI s1 1228) + (1))))) 9 rfl ?_
        obtain ⟨⟨v2, s2⟩, hk, h⟩ := Option.bind_eq_some_iff.mp h
        dsimp only at h
        refine RU.call (as := [.ref 19, .int p0, .int p1]) (rest := []) (u := some (.int v2)) (C' := (48, [some (.ref 19), some (.int p0), some (.int p1), none], [.int v2], s2)) rfl rfl (m_X5_codeAt p0 p1 (sI s1 1228 ((gI s1 1228) + (1))) hk) rfl rfl ?_
        refine RU.blk (C' := (bif cEq v2 (112) then 69 else 55, [some (.ref 19), some (.int p0), some (.int p1), some (.int v2)], [], s2)) 4 rfl ?_
        rcases cnd_some h with ⟨hc, h⟩ | ⟨hc, h⟩
        · refine RU.tt hc ?_
          refine RU.blk (C' := (bif cNe v2 (112) then 97 else 93, [some (.ref 19), some (.int p0), some (.int p1), some (.int v2)], [.int (gI (sI s2 1228 ((gI s2 1228) + (1))) 1231), .ref 24], (sI s2 1228 ((gI s2 1228) + (1))))) 13 rfl ?_
          rcases cnd_some h with ⟨hc, h⟩ | ⟨hc, h⟩
          · refine RU.tt hc ?_
            refine RU.blk (C' := (bif cNe v2 (100) then 107 else 103, [some (.ref 19), some (.int p0), some (.int p1), some (.int v2)], [.int (gI (sI s2 1228 ((gI s2 1228) + (1))) 1231), .ref 24], (sI s2 1228 ((gI s2 1228) + (1))))) 3 rfl ?_
            rcases cnd_some h with ⟨hc, h⟩ | ⟨hc, h⟩
            · refine RU.tt hc ?_
              refine RU.blk (C' := (108, [some (.ref 19), some (.int p0), some (.int p1), some (.int v2)], [.int (2), .int (gI (sI s2 1228 ((gI s2 1228) + (1))) 1231), .ref 24], (sI s2 1228 ((gI s2 1228) + (1))))) 1 rfl ?_
              obtain ⟨hv, h⟩ := cnd_n h
              refine RU.iast (N := 4) rfl rfl hv ?_
              refine RU.blk (C' := (124, [some (.ref 19), some (.int p0), some (.int p1), some (.int v2)], [.int (9), .int (0), .int (0), .int p1, .int p0, .ref 19, .int (gI (sA (sI s2 1228 ((gI s2 1228) + (1))) 24 (Int32.toNatClampNeg (gI (sI s2 1228 ((gI s2 1228) + (1))) 1231)) (2)) 1231), .ref 25], (sA (sI s2 1228 ((gI s2 1228) + (1))) 24 (Int32.toNatClampNeg (gI (sI s2 1228 ((gI s2 1228) + (1))) 1231)) (2)))) 10 rfl ?_
              obtain ⟨⟨v3, s3⟩, hk, h⟩ := Option.bind_eq_some_iff.mp h
              dsimp only at h
              refine RU.call (as := [.ref 19, .int p0, .int p1, .int (0), .int (0), .int (9)]) (rest := [.int (gI (sA (sI s2 1228 ((gI s2 1228) + (1))) 24 (Int32.toNatClampNeg (gI (sI s2 1228 ((gI s2 1228) + (1))) 1231)) (2)) 1231), .ref 25]) (u := some (.int v3)) (C' := (127, [some (.ref 19), some (.int p0), some (.int p1), some (.int v2)], [.int v3, .int (gI (sA (sI s2 1228 ((gI s2 1228) + (1))) 24 (Int32.toNatClampNeg (gI (sI s2 1228 ((gI s2 1228) + (1))) 1231)) (2)) 1231), .ref 25], s3)) rfl rfl (m_X5_figure p0 p1 (0) (0) (9) (sA (sI s2 1228 ((gI s2 1228) + (1))) 24 (Int32.toNatClampNeg (gI (sI s2 1228 ((gI s2 1228) + (1))) 1231)) (2)) hk) rfl rfl ?_
              obtain ⟨hv, h⟩ := cnd_n h
              refine RU.iast (N := 4) rfl rfl hv ?_
              refine RU.blk (C' := (148, [some (.ref 19), some (.int p0), some (.int p1), some (.int v2)], [.int ((gI (sI (sA s3 25 (Int32.toNatClampNeg (gI (sA (sI s2 1228 ((gI s2 1228) + (1))) 24 (Int32.toNatClampNeg (gI (sI s2 1228 ((gI s2 1228) + (1))) 1231)) (2)) 1231)) v3) 1231 ((gI (sA s3 25 (Int32.toNatClampNeg (gI (sA (sI s2 1228 ((gI s2 1228) + (1))) 24 (Int32.toNatClampNeg (gI (sI s2 1228 ((gI s2 1228) + (1))) 1231)) (2)) 1231)) v3) 1231) + (1))) 1231) - (1)), .ref 25], (sI (sA s3 25 (Int32.toNatClampNeg (gI (sA (sI s2 1228 ((gI s2 1228) + (1))) 24 (Int32.toNatClampNeg (gI (sI s2 1228 ((gI s2 1228) + (1))) 1231)) (2)) 1231)) v3) 1231 ((gI (sA s3 25 (Int32.toNatClampNeg (gI (sA (sI s2 1228 ((gI s2 1228) + (1))) 24 (Int32.toNatClampNeg (gI (sI s2 1228 ((gI s2 1228) + (1))) 1231)) (2)) 1231)) v3) 1231) + (1))))) 12 rfl ?_
              obtain ⟨hv, h⟩ := cnd_n h
              refine RU.iald (N := 4) rfl rfl hv ?_
              refine RU.blk (C' := (bif cLt (gA (sI (sA s3 25 (Int32.toNatClampNeg (gI (sA (sI s2 1228 ((gI s2 1228) + (1))) 24 (Int32.toNatClampNeg (gI (sI s2 1228 ((gI s2 1228) + (1))) 1231)) (2)) 1231)) v3) 1231 ((gI (sA s3 25 (Int32.toNatClampNeg (gI (sA (sI s2 1228 ((gI s2 1228) + (1))) 24 (Int32.toNatClampNeg (gI (sI s2 1228 ((gI s2 1228) + (1))) 1231)) (2)) 1231)) v3) 1231) + (1))) 25 (Int32.toNatClampNeg ((gI (sI (sA s3 25 (Int32.toNatClampNeg (gI (sA (sI s2 1228 ((gI s2 1228) + (1))) 24 (Int32.toNatClampNeg (gI (sI s2 1228 ((gI s2 1228) + (1))) 1231)) (2)) 1231)) v3) 1231 ((gI (sA s3 25 (Int32.toNatClampNeg (gI (sA (sI s2 1228 ((gI s2 1228) + (1))) 24 (Int32.toNatClampNeg (gI (sI s2 1228 ((gI s2 1228) + (1))) 1231)) (2)) 1231)) v3) 1231) + (1))) 1231) - (1)))) 0 then 156 else 152, [some (.ref 19), some (.int p0), some (.int p1), some (.int v2)], [], (sI (sA s3 25 (Int32.toNatClampNeg (gI (sA (sI s2 1228 ((gI s2 1228) + (1))) 24 (Int32.toNatClampNeg (gI (sI s2 1228 ((gI s2 1228) + (1))) 1231)) (2)) 1231)) v3) 1231 ((gI (sA s3 25 (Int32.toNatClampNeg (gI (sA (sI s2 1228 ((gI s2 1228) + (1))) 24 (Int32.toNatClampNeg (gI (sI s2 1228 ((gI s2 1228) + (1))) 1231)) (2)) 1231)) v3) 1231) + (1))))) 1 rfl ?_
              rcases cnd_some h with ⟨hc, h⟩ | ⟨hc, h⟩
              · refine RU.tt hc ?_
                refine RU.blk (C' := (157, [some (.ref 19), some (.int p0), some (.int p1), some (.int v2)], [.int (0)], (sI (sA s3 25 (Int32.toNatClampNeg (gI (sA (sI s2 1228 ((gI s2 1228) + (1))) 24 (Int32.toNatClampNeg (gI (sI s2 1228 ((gI s2 1228) + (1))) 1231)) (2)) 1231)) v3) 1231 ((gI (sA s3 25 (Int32.toNatClampNeg (gI (sA (sI s2 1228 ((gI s2 1228) + (1))) 24 (Int32.toNatClampNeg (gI (sI s2 1228 ((gI s2 1228) + (1))) 1231)) (2)) 1231)) v3) 1231) + (1))))) 1 rfl ?_
                obtain ⟨rfl, rfl⟩ := ret_inj h
                exact RU.ret rfl rfl rfl
              · refine RU.ff hc ?_
                refine RU.blk (C' := (157, [some (.ref 19), some (.int p0), some (.int p1), some (.int v2)], [.int (1)], (sI (sA s3 25 (Int32.toNatClampNeg (gI (sA (sI s2 1228 ((gI s2 1228) + (1))) 24 (Int32.toNatClampNeg (gI (sI s2 1228 ((gI s2 1228) + (1))) 1231)) (2)) 1231)) v3) 1231 ((gI (sA s3 25 (Int32.toNatClampNeg (gI (sA (sI s2 1228 ((gI s2 1228) + (1))) 24 (Int32.toNatClampNeg (gI (sI s2 1228 ((gI s2 1228) + (1))) 1231)) (2)) 1231)) v3) 1231) + (1))))) 2 rfl ?_
                obtain ⟨rfl, rfl⟩ := ret_inj h
                exact RU.ret rfl rfl rfl
            · refine RU.ff hc ?_
              refine RU.blk (C' := (108, [some (.ref 19), some (.int p0), some (.int p1), some (.int v2)], [.int (1), .int (gI (sI s2 1228 ((gI s2 1228) + (1))) 1231), .ref 24], (sI s2 1228 ((gI s2 1228) + (1))))) 2 rfl ?_
              obtain ⟨hv, h⟩ := cnd_n h
              refine RU.iast (N := 4) rfl rfl hv ?_
              refine RU.blk (C' := (124, [some (.ref 19), some (.int p0), some (.int p1), some (.int v2)], [.int (9), .int (0), .int (0), .int p1, .int p0, .ref 19, .int (gI (sA (sI s2 1228 ((gI s2 1228) + (1))) 24 (Int32.toNatClampNeg (gI (sI s2 1228 ((gI s2 1228) + (1))) 1231)) (1)) 1231), .ref 25], (sA (sI s2 1228 ((gI s2 1228) + (1))) 24 (Int32.toNatClampNeg (gI (sI s2 1228 ((gI s2 1228) + (1))) 1231)) (1)))) 10 rfl ?_
              obtain ⟨⟨v4, s4⟩, hk, h⟩ := Option.bind_eq_some_iff.mp h
              dsimp only at h
              refine RU.call (as := [.ref 19, .int p0, .int p1, .int (0), .int (0), .int (9)]) (rest := [.int (gI (sA (sI s2 1228 ((gI s2 1228) + (1))) 24 (Int32.toNatClampNeg (gI (sI s2 1228 ((gI s2 1228) + (1))) 1231)) (1)) 1231), .ref 25]) (u := some (.int v4)) (C' := (127, [some (.ref 19), some (.int p0), some (.int p1), some (.int v2)], [.int v4, .int (gI (sA (sI s2 1228 ((gI s2 1228) + (1))) 24 (Int32.toNatClampNeg (gI (sI s2 1228 ((gI s2 1228) + (1))) 1231)) (1)) 1231), .ref 25], s4)) rfl rfl (m_X5_figure p0 p1 (0) (0) (9) (sA (sI s2 1228 ((gI s2 1228) + (1))) 24 (Int32.toNatClampNeg (gI (sI s2 1228 ((gI s2 1228) + (1))) 1231)) (1)) hk) rfl rfl ?_
              obtain ⟨hv, h⟩ := cnd_n h
              refine RU.iast (N := 4) rfl rfl hv ?_
              refine RU.blk (C' := (148, [some (.ref 19), some (.int p0), some (.int p1), some (.int v2)], [.int ((gI (sI (sA s4 25 (Int32.toNatClampNeg (gI (sA (sI s2 1228 ((gI s2 1228) + (1))) 24 (Int32.toNatClampNeg (gI (sI s2 1228 ((gI s2 1228) + (1))) 1231)) (1)) 1231)) v4) 1231 ((gI (sA s4 25 (Int32.toNatClampNeg (gI (sA (sI s2 1228 ((gI s2 1228) + (1))) 24 (Int32.toNatClampNeg (gI (sI s2 1228 ((gI s2 1228) + (1))) 1231)) (1)) 1231)) v4) 1231) + (1))) 1231) - (1)), .ref 25], (sI (sA s4 25 (Int32.toNatClampNeg (gI (sA (sI s2 1228 ((gI s2 1228) + (1))) 24 (Int32.toNatClampNeg (gI (sI s2 1228 ((gI s2 1228) + (1))) 1231)) (1)) 1231)) v4) 1231 ((gI (sA s4 25 (Int32.toNatClampNeg (gI (sA (sI s2 1228 ((gI s2 1228) + (1))) 24 (Int32.toNatClampNeg (gI (sI s2 1228 ((gI s2 1228) + (1))) 1231)) (1)) 1231)) v4) 1231) + (1))))) 12 rfl ?_
              obtain ⟨hv, h⟩ := cnd_n h
              refine RU.iald (N := 4) rfl rfl hv ?_
              refine RU.blk (C' := (bif cLt (gA (sI (sA s4 25 (Int32.toNatClampNeg (gI (sA (sI s2 1228 ((gI s2 1228) + (1))) 24 (Int32.toNatClampNeg (gI (sI s2 1228 ((gI s2 1228) + (1))) 1231)) (1)) 1231)) v4) 1231 ((gI (sA s4 25 (Int32.toNatClampNeg (gI (sA (sI s2 1228 ((gI s2 1228) + (1))) 24 (Int32.toNatClampNeg (gI (sI s2 1228 ((gI s2 1228) + (1))) 1231)) (1)) 1231)) v4) 1231) + (1))) 25 (Int32.toNatClampNeg ((gI (sI (sA s4 25 (Int32.toNatClampNeg (gI (sA (sI s2 1228 ((gI s2 1228) + (1))) 24 (Int32.toNatClampNeg (gI (sI s2 1228 ((gI s2 1228) + (1))) 1231)) (1)) 1231)) v4) 1231 ((gI (sA s4 25 (Int32.toNatClampNeg (gI (sA (sI s2 1228 ((gI s2 1228) + (1))) 24 (Int32.toNatClampNeg (gI (sI s2 1228 ((gI s2 1228) + (1))) 1231)) (1)) 1231)) v4) 1231) + (1))) 1231) - (1)))) 0 then 156 else 152, [some (.ref 19), some (.int p0), some (.int p1), some (.int v2)], [], (sI (sA s4 25 (Int32.toNatClampNeg (gI (sA (sI s2 1228 ((gI s2 1228) + (1))) 24 (Int32.toNatClampNeg (gI (sI s2 1228 ((gI s2 1228) + (1))) 1231)) (1)) 1231)) v4) 1231 ((gI (sA s4 25 (Int32.toNatClampNeg (gI (sA (sI s2 1228 ((gI s2 1228) + (1))) 24 (Int32.toNatClampNeg (gI (sI s2 1228 ((gI s2 1228) + (1))) 1231)) (1)) 1231)) v4) 1231) + (1))))) 1 rfl ?_
              rcases cnd_some h with ⟨hc, h⟩ | ⟨hc, h⟩
              · refine RU.tt hc ?_
                refine RU.blk (C' := (157, [some (.ref 19), some (.int p0), some (.int p1), some (.int v2)], [.int (0)], (sI (sA s4 25 (Int32.toNatClampNeg (gI (sA (sI s2 1228 ((gI s2 1228) + (1))) 24 (Int32.toNatClampNeg (gI (sI s2 1228 ((gI s2 1228) + (1))) 1231)) (1)) 1231)) v4) 1231 ((gI (sA s4 25 (Int32.toNatClampNeg (gI (sA (sI s2 1228 ((gI s2 1228) + (1))) 24 (Int32.toNatClampNeg (gI (sI s2 1228 ((gI s2 1228) + (1))) 1231)) (1)) 1231)) v4) 1231) + (1))))) 1 rfl ?_
                obtain ⟨rfl, rfl⟩ := ret_inj h
                exact RU.ret rfl rfl rfl
              · refine RU.ff hc ?_
                refine RU.blk (C' := (157, [some (.ref 19), some (.int p0), some (.int p1), some (.int v2)], [.int (1)], (sI (sA s4 25 (Int32.toNatClampNeg (gI (sA (sI s2 1228 ((gI s2 1228) + (1))) 24 (Int32.toNatClampNeg (gI (sI s2 1228 ((gI s2 1228) + (1))) 1231)) (1)) 1231)) v4) 1231 ((gI (sA s4 25 (Int32.toNatClampNeg (gI (sA (sI s2 1228 ((gI s2 1228) + (1))) 24 (Int32.toNatClampNeg (gI (sI s2 1228 ((gI s2 1228) + (1))) 1231)) (1)) 1231)) v4) 1231) + (1))))) 2 rfl ?_
                obtain ⟨rfl, rfl⟩ := ret_inj h
                exact RU.ret rfl rfl rfl
          · refine RU.ff hc ?_
            refine RU.blk (C' := (108, [some (.ref 19), some (.int p0), some (.int p1), some (.int v2)], [.int (0), .int (gI (sI s2 1228 ((gI s2 1228) + (1))) 1231), .ref 24], (sI s2 1228 ((gI s2 1228) + (1))))) 2 rfl ?_
            obtain ⟨hv, h⟩ := cnd_n h
            refine RU.iast (N := 4) rfl rfl hv ?_
            refine RU.blk (C' := (124, [some (.ref 19), some (.int p0), some (.int p1), some (.int v2)], [.int (9), .int (0), .int (0), .int p1, .int p0, .ref 19, .int (gI (sA (sI s2 1228 ((gI s2 1228) + (1))) 24 (Int32.toNatClampNeg (gI (sI s2 1228 ((gI s2 1228) + (1))) 1231)) (0)) 1231), .ref 25], (sA (sI s2 1228 ((gI s2 1228) + (1))) 24 (Int32.toNatClampNeg (gI (sI s2 1228 ((gI s2 1228) + (1))) 1231)) (0)))) 10 rfl ?_
            obtain ⟨⟨v5, s5⟩, hk, h⟩ := Option.bind_eq_some_iff.mp h
            dsimp only at h
            refine RU.call (as := [.ref 19, .int p0, .int p1, .int (0), .int (0), .int (9)]) (rest := [.int (gI (sA (sI s2 1228 ((gI s2 1228) + (1))) 24 (Int32.toNatClampNeg (gI (sI s2 1228 ((gI s2 1228) + (1))) 1231)) (0)) 1231), .ref 25]) (u := some (.int v5)) (C' := (127, [some (.ref 19), some (.int p0), some (.int p1), some (.int v2)], [.int v5, .int (gI (sA (sI s2 1228 ((gI s2 1228) + (1))) 24 (Int32.toNatClampNeg (gI (sI s2 1228 ((gI s2 1228) + (1))) 1231)) (0)) 1231), .ref 25], s5)) rfl rfl (m_X5_figure p0 p1 (0) (0) (9) (sA (sI s2 1228 ((gI s2 1228) + (1))) 24 (Int32.toNatClampNeg (gI (sI s2 1228 ((gI s2 1228) + (1))) 1231)) (0)) hk) rfl rfl ?_
            obtain ⟨hv, h⟩ := cnd_n h
            refine RU.iast (N := 4) rfl rfl hv ?_
            refine RU.blk (C' := (148, [some (.ref 19), some (.int p0), some (.int p1), some (.int v2)], [.int ((gI (sI (sA s5 25 (Int32.toNatClampNeg (gI (sA (sI s2 1228 ((gI s2 1228) + (1))) 24 (Int32.toNatClampNeg (gI (sI s2 1228 ((gI s2 1228) + (1))) 1231)) (0)) 1231)) v5) 1231 ((gI (sA s5 25 (Int32.toNatClampNeg (gI (sA (sI s2 1228 ((gI s2 1228) + (1))) 24 (Int32.toNatClampNeg (gI (sI s2 1228 ((gI s2 1228) + (1))) 1231)) (0)) 1231)) v5) 1231) + (1))) 1231) - (1)), .ref 25], (sI (sA s5 25 (Int32.toNatClampNeg (gI (sA (sI s2 1228 ((gI s2 1228) + (1))) 24 (Int32.toNatClampNeg (gI (sI s2 1228 ((gI s2 1228) + (1))) 1231)) (0)) 1231)) v5) 1231 ((gI (sA s5 25 (Int32.toNatClampNeg (gI (sA (sI s2 1228 ((gI s2 1228) + (1))) 24 (Int32.toNatClampNeg (gI (sI s2 1228 ((gI s2 1228) + (1))) 1231)) (0)) 1231)) v5) 1231) + (1))))) 12 rfl ?_
            obtain ⟨hv, h⟩ := cnd_n h
            refine RU.iald (N := 4) rfl rfl hv ?_
            refine RU.blk (C' := (bif cLt (gA (sI (sA s5 25 (Int32.toNatClampNeg (gI (sA (sI s2 1228 ((gI s2 1228) + (1))) 24 (Int32.toNatClampNeg (gI (sI s2 1228 ((gI s2 1228) + (1))) 1231)) (0)) 1231)) v5) 1231 ((gI (sA s5 25 (Int32.toNatClampNeg (gI (sA (sI s2 1228 ((gI s2 1228) + (1))) 24 (Int32.toNatClampNeg (gI (sI s2 1228 ((gI s2 1228) + (1))) 1231)) (0)) 1231)) v5) 1231) + (1))) 25 (Int32.toNatClampNeg ((gI (sI (sA s5 25 (Int32.toNatClampNeg (gI (sA (sI s2 1228 ((gI s2 1228) + (1))) 24 (Int32.toNatClampNeg (gI (sI s2 1228 ((gI s2 1228) + (1))) 1231)) (0)) 1231)) v5) 1231 ((gI (sA s5 25 (Int32.toNatClampNeg (gI (sA (sI s2 1228 ((gI s2 1228) + (1))) 24 (Int32.toNatClampNeg (gI (sI s2 1228 ((gI s2 1228) + (1))) 1231)) (0)) 1231)) v5) 1231) + (1))) 1231) - (1)))) 0 then 156 else 152, [some (.ref 19), some (.int p0), some (.int p1), some (.int v2)], [], (sI (sA s5 25 (Int32.toNatClampNeg (gI (sA (sI s2 1228 ((gI s2 1228) + (1))) 24 (Int32.toNatClampNeg (gI (sI s2 1228 ((gI s2 1228) + (1))) 1231)) (0)) 1231)) v5) 1231 ((gI (sA s5 25 (Int32.toNatClampNeg (gI (sA (sI s2 1228 ((gI s2 1228) + (1))) 24 (Int32.toNatClampNeg (gI (sI s2 1228 ((gI s2 1228) + (1))) 1231)) (0)) 1231)) v5) 1231) + (1))))) 1 rfl ?_
            rcases cnd_some h with ⟨hc, h⟩ | ⟨hc, h⟩
            · refine RU.tt hc ?_
              refine RU.blk (C' := (157, [some (.ref 19), some (.int p0), some (.int p1), some (.int v2)], [.int (0)], (sI (sA s5 25 (Int32.toNatClampNeg (gI (sA (sI s2 1228 ((gI s2 1228) + (1))) 24 (Int32.toNatClampNeg (gI (sI s2 1228 ((gI s2 1228) + (1))) 1231)) (0)) 1231)) v5) 1231 ((gI (sA s5 25 (Int32.toNatClampNeg (gI (sA (sI s2 1228 ((gI s2 1228) + (1))) 24 (Int32.toNatClampNeg (gI (sI s2 1228 ((gI s2 1228) + (1))) 1231)) (0)) 1231)) v5) 1231) + (1))))) 1 rfl ?_
              obtain ⟨rfl, rfl⟩ := ret_inj h
              exact RU.ret rfl rfl rfl
            · refine RU.ff hc ?_
              refine RU.blk (C' := (157, [some (.ref 19), some (.int p0), some (.int p1), some (.int v2)], [.int (1)], (sI (sA s5 25 (Int32.toNatClampNeg (gI (sA (sI s2 1228 ((gI s2 1228) + (1))) 24 (Int32.toNatClampNeg (gI (sI s2 1228 ((gI s2 1228) + (1))) 1231)) (0)) 1231)) v5) 1231 ((gI (sA s5 25 (Int32.toNatClampNeg (gI (sA (sI s2 1228 ((gI s2 1228) + (1))) 24 (Int32.toNatClampNeg (gI (sI s2 1228 ((gI s2 1228) + (1))) 1231)) (0)) 1231)) v5) 1231) + (1))))) 2 rfl ?_
              obtain ⟨rfl, rfl⟩ := ret_inj h
              exact RU.ret rfl rfl rfl
        · refine RU.ff hc ?_
          refine RU.blk (C' := (bif cEq v2 (100) then 69 else 61, [some (.ref 19), some (.int p0), some (.int p1), some (.int v2)], [], s2)) 3 rfl ?_
          rcases cnd_some h with ⟨hc, h⟩ | ⟨hc, h⟩
          · refine RU.tt hc ?_
            refine RU.blk (C' := (bif cNe v2 (112) then 97 else 93, [some (.ref 19), some (.int p0), some (.int p1), some (.int v2)], [.int (gI (sI s2 1228 ((gI s2 1228) + (1))) 1231), .ref 24], (sI s2 1228 ((gI s2 1228) + (1))))) 13 rfl ?_
            rcases cnd_some h with ⟨hc, h⟩ | ⟨hc, h⟩
            · refine RU.tt hc ?_
              refine RU.blk (C' := (bif cNe v2 (100) then 107 else 103, [some (.ref 19), some (.int p0), some (.int p1), some (.int v2)], [.int (gI (sI s2 1228 ((gI s2 1228) + (1))) 1231), .ref 24], (sI s2 1228 ((gI s2 1228) + (1))))) 3 rfl ?_
              rcases cnd_some h with ⟨hc, h⟩ | ⟨hc, h⟩
              · refine RU.tt hc ?_
                refine RU.blk (C' := (108, [some (.ref 19), some (.int p0), some (.int p1), some (.int v2)], [.int (2), .int (gI (sI s2 1228 ((gI s2 1228) + (1))) 1231), .ref 24], (sI s2 1228 ((gI s2 1228) + (1))))) 1 rfl ?_
                obtain ⟨hv, h⟩ := cnd_n h
                refine RU.iast (N := 4) rfl rfl hv ?_
                refine RU.blk (C' := (124, [some (.ref 19), some (.int p0), some (.int p1), some (.int v2)], [.int (9), .int (0), .int (0), .int p1, .int p0, .ref 19, .int (gI (sA (sI s2 1228 ((gI s2 1228) + (1))) 24 (Int32.toNatClampNeg (gI (sI s2 1228 ((gI s2 1228) + (1))) 1231)) (2)) 1231), .ref 25], (sA (sI s2 1228 ((gI s2 1228) + (1))) 24 (Int32.toNatClampNeg (gI (sI s2 1228 ((gI s2 1228) + (1))) 1231)) (2)))) 10 rfl ?_
                obtain ⟨⟨v6, s6⟩, hk, h⟩ := Option.bind_eq_some_iff.mp h
                dsimp only at h
                refine RU.call (as := [.ref 19, .int p0, .int p1, .int (0), .int (0), .int (9)]) (rest := [.int (gI (sA (sI s2 1228 ((gI s2 1228) + (1))) 24 (Int32.toNatClampNeg (gI (sI s2 1228 ((gI s2 1228) + (1))) 1231)) (2)) 1231), .ref 25]) (u := some (.int v6)) (C' := (127, [some (.ref 19), some (.int p0), some (.int p1), some (.int v2)], [.int v6, .int (gI (sA (sI s2 1228 ((gI s2 1228) + (1))) 24 (Int32.toNatClampNeg (gI (sI s2 1228 ((gI s2 1228) + (1))) 1231)) (2)) 1231), .ref 25], s6)) rfl rfl (m_X5_figure p0 p1 (0) (0) (9) (sA (sI s2 1228 ((gI s2 1228) + (1))) 24 (Int32.toNatClampNeg (gI (sI s2 1228 ((gI s2 1228) + (1))) 1231)) (2)) hk) rfl rfl ?_
                obtain ⟨hv, h⟩ := cnd_n h
                refine RU.iast (N := 4) rfl rfl hv ?_
                refine RU.blk (C' := (148, [some (.ref 19), some (.int p0), some (.int p1), some (.int v2)], [.int ((gI (sI (sA s6 25 (Int32.toNatClampNeg (gI (sA (sI s2 1228 ((gI s2 1228) + (1))) 24 (Int32.toNatClampNeg (gI (sI s2 1228 ((gI s2 1228) + (1))) 1231)) (2)) 1231)) v6) 1231 ((gI (sA s6 25 (Int32.toNatClampNeg (gI (sA (sI s2 1228 ((gI s2 1228) + (1))) 24 (Int32.toNatClampNeg (gI (sI s2 1228 ((gI s2 1228) + (1))) 1231)) (2)) 1231)) v6) 1231) + (1))) 1231) - (1)), .ref 25], (sI (sA s6 25 (Int32.toNatClampNeg (gI (sA (sI s2 1228 ((gI s2 1228) + (1))) 24 (Int32.toNatClampNeg (gI (sI s2 1228 ((gI s2 1228) + (1))) 1231)) (2)) 1231)) v6) 1231 ((gI (sA s6 25 (Int32.toNatClampNeg (gI (sA (sI s2 1228 ((gI s2 1228) + (1))) 24 (Int32.toNatClampNeg (gI (sI s2 1228 ((gI s2 1228) + (1))) 1231)) (2)) 1231)) v6) 1231) + (1))))) 12 rfl ?_
                obtain ⟨hv, h⟩ := cnd_n h
                refine RU.iald (N := 4) rfl rfl hv ?_
                refine RU.blk (C' := (bif cLt (gA (sI (sA s6 25 (Int32.toNatClampNeg (gI (sA (sI s2 1228 ((gI s2 1228) + (1))) 24 (Int32.toNatClampNeg (gI (sI s2 1228 ((gI s2 1228) + (1))) 1231)) (2)) 1231)) v6) 1231 ((gI (sA s6 25 (Int32.toNatClampNeg (gI (sA (sI s2 1228 ((gI s2 1228) + (1))) 24 (Int32.toNatClampNeg (gI (sI s2 1228 ((gI s2 1228) + (1))) 1231)) (2)) 1231)) v6) 1231) + (1))) 25 (Int32.toNatClampNeg ((gI (sI (sA s6 25 (Int32.toNatClampNeg (gI (sA (sI s2 1228 ((gI s2 1228) + (1))) 24 (Int32.toNatClampNeg (gI (sI s2 1228 ((gI s2 1228) + (1))) 1231)) (2)) 1231)) v6) 1231 ((gI (sA s6 25 (Int32.toNatClampNeg (gI (sA (sI s2 1228 ((gI s2 1228) + (1))) 24 (Int32.toNatClampNeg (gI (sI s2 1228 ((gI s2 1228) + (1))) 1231)) (2)) 1231)) v6) 1231) + (1))) 1231) - (1)))) 0 then 156 else 152, [some (.ref 19), some (.int p0), some (.int p1), some (.int v2)], [], (sI (sA s6 25 (Int32.toNatClampNeg (gI (sA (sI s2 1228 ((gI s2 1228) + (1))) 24 (Int32.toNatClampNeg (gI (sI s2 1228 ((gI s2 1228) + (1))) 1231)) (2)) 1231)) v6) 1231 ((gI (sA s6 25 (Int32.toNatClampNeg (gI (sA (sI s2 1228 ((gI s2 1228) + (1))) 24 (Int32.toNatClampNeg (gI (sI s2 1228 ((gI s2 1228) + (1))) 1231)) (2)) 1231)) v6) 1231) + (1))))) 1 rfl ?_
                rcases cnd_some h with ⟨hc, h⟩ | ⟨hc, h⟩
                · refine RU.tt hc ?_
                  refine RU.blk (C' := (157, [some (.ref 19), some (.int p0), some (.int p1), some (.int v2)], [.int (0)], (sI (sA s6 25 (Int32.toNatClampNeg (gI (sA (sI s2 1228 ((gI s2 1228) + (1))) 24 (Int32.toNatClampNeg (gI (sI s2 1228 ((gI s2 1228) + (1))) 1231)) (2)) 1231)) v6) 1231 ((gI (sA s6 25 (Int32.toNatClampNeg (gI (sA (sI s2 1228 ((gI s2 1228) + (1))) 24 (Int32.toNatClampNeg (gI (sI s2 1228 ((gI s2 1228) + (1))) 1231)) (2)) 1231)) v6) 1231) + (1))))) 1 rfl ?_
                  obtain ⟨rfl, rfl⟩ := ret_inj h
                  exact RU.ret rfl rfl rfl
                · refine RU.ff hc ?_
                  refine RU.blk (C' := (157, [some (.ref 19), some (.int p0), some (.int p1), some (.int v2)], [.int (1)], (sI (sA s6 25 (Int32.toNatClampNeg (gI (sA (sI s2 1228 ((gI s2 1228) + (1))) 24 (Int32.toNatClampNeg (gI (sI s2 1228 ((gI s2 1228) + (1))) 1231)) (2)) 1231)) v6) 1231 ((gI (sA s6 25 (Int32.toNatClampNeg (gI (sA (sI s2 1228 ((gI s2 1228) + (1))) 24 (Int32.toNatClampNeg (gI (sI s2 1228 ((gI s2 1228) + (1))) 1231)) (2)) 1231)) v6) 1231) + (1))))) 2 rfl ?_
                  obtain ⟨rfl, rfl⟩ := ret_inj h
                  exact RU.ret rfl rfl rfl
              · refine RU.ff hc ?_
                refine RU.blk (C' := (108, [some (.ref 19), some (.int p0), some (.int p1), some (.int v2)], [.int (1), .int (gI (sI s2 1228 ((gI s2 1228) + (1))) 1231), .ref 24], (sI s2 1228 ((gI s2 1228) + (1))))) 2 rfl ?_
                obtain ⟨hv, h⟩ := cnd_n h
                refine RU.iast (N := 4) rfl rfl hv ?_
                refine RU.blk (C' := (124, [some (.ref 19), some (.int p0), some (.int p1), some (.int v2)], [.int (9), .int (0), .int (0), .int p1, .int p0, .ref 19, .int (gI (sA (sI s2 1228 ((gI s2 1228) + (1))) 24 (Int32.toNatClampNeg (gI (sI s2 1228 ((gI s2 1228) + (1))) 1231)) (1)) 1231), .ref 25], (sA (sI s2 1228 ((gI s2 1228) + (1))) 24 (Int32.toNatClampNeg (gI (sI s2 1228 ((gI s2 1228) + (1))) 1231)) (1)))) 10 rfl ?_
                obtain ⟨⟨v7, s7⟩, hk, h⟩ := Option.bind_eq_some_iff.mp h
                dsimp only at h
                refine RU.call (as := [.ref 19, .int p0, .int p1, .int (0), .int (0), .int (9)]) (rest := [.int (gI (sA (sI s2 1228 ((gI s2 1228) + (1))) 24 (Int32.toNatClampNeg (gI (sI s2 1228 ((gI s2 1228) + (1))) 1231)) (1)) 1231), .ref 25]) (u := some (.int v7)) (C' := (127, [some (.ref 19), some (.int p0), some (.int p1), some (.int v2)], [.int v7, .int (gI (sA (sI s2 1228 ((gI s2 1228) + (1))) 24 (Int32.toNatClampNeg (gI (sI s2 1228 ((gI s2 1228) + (1))) 1231)) (1)) 1231), .ref 25], s7)) rfl rfl (m_X5_figure p0 p1 (0) (0) (9) (sA (sI s2 1228 ((gI s2 1228) + (1))) 24 (Int32.toNatClampNeg (gI (sI s2 1228 ((gI s2 1228) + (1))) 1231)) (1)) hk) rfl rfl ?_
                obtain ⟨hv, h⟩ := cnd_n h
                refine RU.iast (N := 4) rfl rfl hv ?_
                refine RU.blk (C' := (148, [some (.ref 19), some (.int p0), some (.int p1), some (.int v2)], [.int ((gI (sI (sA s7 25 (Int32.toNatClampNeg (gI (sA (sI s2 1228 ((gI s2 1228) + (1))) 24 (Int32.toNatClampNeg (gI (sI s2 1228 ((gI s2 1228) + (1))) 1231)) (1)) 1231)) v7) 1231 ((gI (sA s7 25 (Int32.toNatClampNeg (gI (sA (sI s2 1228 ((gI s2 1228) + (1))) 24 (Int32.toNatClampNeg (gI (sI s2 1228 ((gI s2 1228) + (1))) 1231)) (1)) 1231)) v7) 1231) + (1))) 1231) - (1)), .ref 25], (sI (sA s7 25 (Int32.toNatClampNeg (gI (sA (sI s2 1228 ((gI s2 1228) + (1))) 24 (Int32.toNatClampNeg (gI (sI s2 1228 ((gI s2 1228) + (1))) 1231)) (1)) 1231)) v7) 1231 ((gI (sA s7 25 (Int32.toNatClampNeg (gI (sA (sI s2 1228 ((gI s2 1228) + (1))) 24 (Int32.toNatClampNeg (gI (sI s2 1228 ((gI s2 1228) + (1))) 1231)) (1)) 1231)) v7) 1231) + (1))))) 12 rfl ?_
                obtain ⟨hv, h⟩ := cnd_n h
                refine RU.iald (N := 4) rfl rfl hv ?_
                refine RU.blk (C' := (bif cLt (gA (sI (sA s7 25 (Int32.toNatClampNeg (gI (sA (sI s2 1228 ((gI s2 1228) + (1))) 24 (Int32.toNatClampNeg (gI (sI s2 1228 ((gI s2 1228) + (1))) 1231)) (1)) 1231)) v7) 1231 ((gI (sA s7 25 (Int32.toNatClampNeg (gI (sA (sI s2 1228 ((gI s2 1228) + (1))) 24 (Int32.toNatClampNeg (gI (sI s2 1228 ((gI s2 1228) + (1))) 1231)) (1)) 1231)) v7) 1231) + (1))) 25 (Int32.toNatClampNeg ((gI (sI (sA s7 25 (Int32.toNatClampNeg (gI (sA (sI s2 1228 ((gI s2 1228) + (1))) 24 (Int32.toNatClampNeg (gI (sI s2 1228 ((gI s2 1228) + (1))) 1231)) (1)) 1231)) v7) 1231 ((gI (sA s7 25 (Int32.toNatClampNeg (gI (sA (sI s2 1228 ((gI s2 1228) + (1))) 24 (Int32.toNatClampNeg (gI (sI s2 1228 ((gI s2 1228) + (1))) 1231)) (1)) 1231)) v7) 1231) + (1))) 1231) - (1)))) 0 then 156 else 152, [some (.ref 19), some (.int p0), some (.int p1), some (.int v2)], [], (sI (sA s7 25 (Int32.toNatClampNeg (gI (sA (sI s2 1228 ((gI s2 1228) + (1))) 24 (Int32.toNatClampNeg (gI (sI s2 1228 ((gI s2 1228) + (1))) 1231)) (1)) 1231)) v7) 1231 ((gI (sA s7 25 (Int32.toNatClampNeg (gI (sA (sI s2 1228 ((gI s2 1228) + (1))) 24 (Int32.toNatClampNeg (gI (sI s2 1228 ((gI s2 1228) + (1))) 1231)) (1)) 1231)) v7) 1231) + (1))))) 1 rfl ?_
                rcases cnd_some h with ⟨hc, h⟩ | ⟨hc, h⟩
                · refine RU.tt hc ?_
                  refine RU.blk (C' := (157, [some (.ref 19), some (.int p0), some (.int p1), some (.int v2)], [.int (0)], (sI (sA s7 25 (Int32.toNatClampNeg (gI (sA (sI s2 1228 ((gI s2 1228) + (1))) 24 (Int32.toNatClampNeg (gI (sI s2 1228 ((gI s2 1228) + (1))) 1231)) (1)) 1231)) v7) 1231 ((gI (sA s7 25 (Int32.toNatClampNeg (gI (sA (sI s2 1228 ((gI s2 1228) + (1))) 24 (Int32.toNatClampNeg (gI (sI s2 1228 ((gI s2 1228) + (1))) 1231)) (1)) 1231)) v7) 1231) + (1))))) 1 rfl ?_
                  obtain ⟨rfl, rfl⟩ := ret_inj h
                  exact RU.ret rfl rfl rfl
                · refine RU.ff hc ?_
                  refine RU.blk (C' := (157, [some (.ref 19), some (.int p0), some (.int p1), some (.int v2)], [.int (1)], (sI (sA s7 25 (Int32.toNatClampNeg (gI (sA (sI s2 1228 ((gI s2 1228) + (1))) 24 (Int32.toNatClampNeg (gI (sI s2 1228 ((gI s2 1228) + (1))) 1231)) (1)) 1231)) v7) 1231 ((gI (sA s7 25 (Int32.toNatClampNeg (gI (sA (sI s2 1228 ((gI s2 1228) + (1))) 24 (Int32.toNatClampNeg (gI (sI s2 1228 ((gI s2 1228) + (1))) 1231)) (1)) 1231)) v7) 1231) + (1))))) 2 rfl ?_
                  obtain ⟨rfl, rfl⟩ := ret_inj h
                  exact RU.ret rfl rfl rfl
            · refine RU.ff hc ?_
              refine RU.blk (C' := (108, [some (.ref 19), some (.int p0), some (.int p1), some (.int v2)], [.int (0), .int (gI (sI s2 1228 ((gI s2 1228) + (1))) 1231), .ref 24], (sI s2 1228 ((gI s2 1228) + (1))))) 2 rfl ?_
              obtain ⟨hv, h⟩ := cnd_n h
              refine RU.iast (N := 4) rfl rfl hv ?_
              refine RU.blk (C' := (124, [some (.ref 19), some (.int p0), some (.int p1), some (.int v2)], [.int (9), .int (0), .int (0), .int p1, .int p0, .ref 19, .int (gI (sA (sI s2 1228 ((gI s2 1228) + (1))) 24 (Int32.toNatClampNeg (gI (sI s2 1228 ((gI s2 1228) + (1))) 1231)) (0)) 1231), .ref 25], (sA (sI s2 1228 ((gI s2 1228) + (1))) 24 (Int32.toNatClampNeg (gI (sI s2 1228 ((gI s2 1228) + (1))) 1231)) (0)))) 10 rfl ?_
              obtain ⟨⟨v8, s8⟩, hk, h⟩ := Option.bind_eq_some_iff.mp h
              dsimp only at h
              refine RU.call (as := [.ref 19, .int p0, .int p1, .int (0), .int (0), .int (9)]) (rest := [.int (gI (sA (sI s2 1228 ((gI s2 1228) + (1))) 24 (Int32.toNatClampNeg (gI (sI s2 1228 ((gI s2 1228) + (1))) 1231)) (0)) 1231), .ref 25]) (u := some (.int v8)) (C' := (127, [some (.ref 19), some (.int p0), some (.int p1), some (.int v2)], [.int v8, .int (gI (sA (sI s2 1228 ((gI s2 1228) + (1))) 24 (Int32.toNatClampNeg (gI (sI s2 1228 ((gI s2 1228) + (1))) 1231)) (0)) 1231), .ref 25], s8)) rfl rfl (m_X5_figure p0 p1 (0) (0) (9) (sA (sI s2 1228 ((gI s2 1228) + (1))) 24 (Int32.toNatClampNeg (gI (sI s2 1228 ((gI s2 1228) + (1))) 1231)) (0)) hk) rfl rfl ?_
              obtain ⟨hv, h⟩ := cnd_n h
              refine RU.iast (N := 4) rfl rfl hv ?_
              refine RU.blk (C' := (148, [some (.ref 19), some (.int p0), some (.int p1), some (.int v2)], [.int ((gI (sI (sA s8 25 (Int32.toNatClampNeg (gI (sA (sI s2 1228 ((gI s2 1228) + (1))) 24 (Int32.toNatClampNeg (gI (sI s2 1228 ((gI s2 1228) + (1))) 1231)) (0)) 1231)) v8) 1231 ((gI (sA s8 25 (Int32.toNatClampNeg (gI (sA (sI s2 1228 ((gI s2 1228) + (1))) 24 (Int32.toNatClampNeg (gI (sI s2 1228 ((gI s2 1228) + (1))) 1231)) (0)) 1231)) v8) 1231) + (1))) 1231) - (1)), .ref 25], (sI (sA s8 25 (Int32.toNatClampNeg (gI (sA (sI s2 1228 ((gI s2 1228) + (1))) 24 (Int32.toNatClampNeg (gI (sI s2 1228 ((gI s2 1228) + (1))) 1231)) (0)) 1231)) v8) 1231 ((gI (sA s8 25 (Int32.toNatClampNeg (gI (sA (sI s2 1228 ((gI s2 1228) + (1))) 24 (Int32.toNatClampNeg (gI (sI s2 1228 ((gI s2 1228) + (1))) 1231)) (0)) 1231)) v8) 1231) + (1))))) 12 rfl ?_
              obtain ⟨hv, h⟩ := cnd_n h
              refine RU.iald (N := 4) rfl rfl hv ?_
              refine RU.blk (C' := (bif cLt (gA (sI (sA s8 25 (Int32.toNatClampNeg (gI (sA (sI s2 1228 ((gI s2 1228) + (1))) 24 (Int32.toNatClampNeg (gI (sI s2 1228 ((gI s2 1228) + (1))) 1231)) (0)) 1231)) v8) 1231 ((gI (sA s8 25 (Int32.toNatClampNeg (gI (sA (sI s2 1228 ((gI s2 1228) + (1))) 24 (Int32.toNatClampNeg (gI (sI s2 1228 ((gI s2 1228) + (1))) 1231)) (0)) 1231)) v8) 1231) + (1))) 25 (Int32.toNatClampNeg ((gI (sI (sA s8 25 (Int32.toNatClampNeg (gI (sA (sI s2 1228 ((gI s2 1228) + (1))) 24 (Int32.toNatClampNeg (gI (sI s2 1228 ((gI s2 1228) + (1))) 1231)) (0)) 1231)) v8) 1231 ((gI (sA s8 25 (Int32.toNatClampNeg (gI (sA (sI s2 1228 ((gI s2 1228) + (1))) 24 (Int32.toNatClampNeg (gI (sI s2 1228 ((gI s2 1228) + (1))) 1231)) (0)) 1231)) v8) 1231) + (1))) 1231) - (1)))) 0 then 156 else 152, [some (.ref 19), some (.int p0), some (.int p1), some (.int v2)], [], (sI (sA s8 25 (Int32.toNatClampNeg (gI (sA (sI s2 1228 ((gI s2 1228) + (1))) 24 (Int32.toNatClampNeg (gI (sI s2 1228 ((gI s2 1228) + (1))) 1231)) (0)) 1231)) v8) 1231 ((gI (sA s8 25 (Int32.toNatClampNeg (gI (sA (sI s2 1228 ((gI s2 1228) + (1))) 24 (Int32.toNatClampNeg (gI (sI s2 1228 ((gI s2 1228) + (1))) 1231)) (0)) 1231)) v8) 1231) + (1))))) 1 rfl ?_
              rcases cnd_some h with ⟨hc, h⟩ | ⟨hc, h⟩
              · refine RU.tt hc ?_
                refine RU.blk (C' := (157, [some (.ref 19), some (.int p0), some (.int p1), some (.int v2)], [.int (0)], (sI (sA s8 25 (Int32.toNatClampNeg (gI (sA (sI s2 1228 ((gI s2 1228) + (1))) 24 (Int32.toNatClampNeg (gI (sI s2 1228 ((gI s2 1228) + (1))) 1231)) (0)) 1231)) v8) 1231 ((gI (sA s8 25 (Int32.toNatClampNeg (gI (sA (sI s2 1228 ((gI s2 1228) + (1))) 24 (Int32.toNatClampNeg (gI (sI s2 1228 ((gI s2 1228) + (1))) 1231)) (0)) 1231)) v8) 1231) + (1))))) 1 rfl ?_
                obtain ⟨rfl, rfl⟩ := ret_inj h
                exact RU.ret rfl rfl rfl
              · refine RU.ff hc ?_
                refine RU.blk (C' := (157, [some (.ref 19), some (.int p0), some (.int p1), some (.int v2)], [.int (1)], (sI (sA s8 25 (Int32.toNatClampNeg (gI (sA (sI s2 1228 ((gI s2 1228) + (1))) 24 (Int32.toNatClampNeg (gI (sI s2 1228 ((gI s2 1228) + (1))) 1231)) (0)) 1231)) v8) 1231 ((gI (sA s8 25 (Int32.toNatClampNeg (gI (sA (sI s2 1228 ((gI s2 1228) + (1))) 24 (Int32.toNatClampNeg (gI (sI s2 1228 ((gI s2 1228) + (1))) 1231)) (0)) 1231)) v8) 1231) + (1))))) 2 rfl ?_
                obtain ⟨rfl, rfl⟩ := ret_inj h
                exact RU.ret rfl rfl rfl
          · refine RU.ff hc ?_
            refine RU.blk (C' := (bif cEq v2 (103) then 69 else 67, [some (.ref 19), some (.int p0), some (.int p1), some (.int v2)], [], s2)) 3 rfl ?_
            rcases cnd_some h with ⟨hc, h⟩ | ⟨hc, h⟩
            · refine RU.tt hc ?_
              refine RU.blk (C' := (bif cNe v2 (112) then 97 else 93, [some (.ref 19), some (.int p0), some (.int p1), some (.int v2)], [.int (gI (sI s2 1228 ((gI s2 1228) + (1))) 1231), .ref 24], (sI s2 1228 ((gI s2 1228) + (1))))) 13 rfl ?_
              rcases cnd_some h with ⟨hc, h⟩ | ⟨hc, h⟩
              · refine RU.tt hc ?_
                refine RU.blk (C' := (bif cNe v2 (100) then 107 else 103, [some (.ref 19), some (.int p0), some (.int p1), some (.int v2)], [.int (gI (sI s2 1228 ((gI s2 1228) + (1))) 1231), .ref 24], (sI s2 1228 ((gI s2 1228) + (1))))) 3 rfl ?_
                rcases cnd_some h with ⟨hc, h⟩ | ⟨hc, h⟩
                · refine RU.tt hc ?_
                  refine RU.blk (C' := (108, [some (.ref 19), some (.int p0), some (.int p1), some (.int v2)], [.int (2), .int (gI (sI s2 1228 ((gI s2 1228) + (1))) 1231), .ref 24], (sI s2 1228 ((gI s2 1228) + (1))))) 1 rfl ?_
                  obtain ⟨hv, h⟩ := cnd_n h
                  refine RU.iast (N := 4) rfl rfl hv ?_
                  refine RU.blk (C' := (124, [some (.ref 19), some (.int p0), some (.int p1), some (.int v2)], [.int (9), .int (0), .int (0), .int p1, .int p0, .ref 19, .int (gI (sA (sI s2 1228 ((gI s2 1228) + (1))) 24 (Int32.toNatClampNeg (gI (sI s2 1228 ((gI s2 1228) + (1))) 1231)) (2)) 1231), .ref 25], (sA (sI s2 1228 ((gI s2 1228) + (1))) 24 (Int32.toNatClampNeg (gI (sI s2 1228 ((gI s2 1228) + (1))) 1231)) (2)))) 10 rfl ?_
                  obtain ⟨⟨v9, s9⟩, hk, h⟩ := Option.bind_eq_some_iff.mp h
                  dsimp only at h
                  refine RU.call (as := [.ref 19, .int p0, .int p1, .int (0), .int (0), .int (9)]) (rest := [.int (gI (sA (sI s2 1228 ((gI s2 1228) + (1))) 24 (Int32.toNatClampNeg (gI (sI s2 1228 ((gI s2 1228) + (1))) 1231)) (2)) 1231), .ref 25]) (u := some (.int v9)) (C' := (127, [some (.ref 19), some (.int p0), some (.int p1), some (.int v2)], [.int v9, .int (gI (sA (sI s2 1228 ((gI s2 1228) + (1))) 24 (Int32.toNatClampNeg (gI (sI s2 1228 ((gI s2 1228) + (1))) 1231)) (2)) 1231), .ref 25], s9)) rfl rfl (m_X5_figure p0 p1 (0) (0) (9) (sA (sI s2 1228 ((gI s2 1228) + (1))) 24 (Int32.toNatClampNeg (gI (sI s2 1228 ((gI s2 1228) + (1))) 1231)) (2)) hk) rfl rfl ?_
                  obtain ⟨hv, h⟩ := cnd_n h
                  refine RU.iast (N := 4) rfl rfl hv ?_
                  refine RU.blk (C' := (148, [some (.ref 19), some (.int p0), some (.int p1), some (.int v2)], [.int ((gI (sI (sA s9 25 (Int32.toNatClampNeg (gI (sA (sI s2 1228 ((gI s2 1228) + (1))) 24 (Int32.toNatClampNeg (gI (sI s2 1228 ((gI s2 1228) + (1))) 1231)) (2)) 1231)) v9) 1231 ((gI (sA s9 25 (Int32.toNatClampNeg (gI (sA (sI s2 1228 ((gI s2 1228) + (1))) 24 (Int32.toNatClampNeg (gI (sI s2 1228 ((gI s2 1228) + (1))) 1231)) (2)) 1231)) v9) 1231) + (1))) 1231) - (1)), .ref 25], (sI (sA s9 25 (Int32.toNatClampNeg (gI (sA (sI s2 1228 ((gI s2 1228) + (1))) 24 (Int32.toNatClampNeg (gI (sI s2 1228 ((gI s2 1228) + (1))) 1231)) (2)) 1231)) v9) 1231 ((gI (sA s9 25 (Int32.toNatClampNeg (gI (sA (sI s2 1228 ((gI s2 1228) + (1))) 24 (Int32.toNatClampNeg (gI (sI s2 1228 ((gI s2 1228) + (1))) 1231)) (2)) 1231)) v9) 1231) + (1))))) 12 rfl ?_
                  obtain ⟨hv, h⟩ := cnd_n h
                  refine RU.iald (N := 4) rfl rfl hv ?_
                  refine RU.blk (C' := (bif cLt (gA (sI (sA s9 25 (Int32.toNatClampNeg (gI (sA (sI s2 1228 ((gI s2 1228) + (1))) 24 (Int32.toNatClampNeg (gI (sI s2 1228 ((gI s2 1228) + (1))) 1231)) (2)) 1231)) v9) 1231 ((gI (sA s9 25 (Int32.toNatClampNeg (gI (sA (sI s2 1228 ((gI s2 1228) + (1))) 24 (Int32.toNatClampNeg (gI (sI s2 1228 ((gI s2 1228) + (1))) 1231)) (2)) 1231)) v9) 1231) + (1))) 25 (Int32.toNatClampNeg ((gI (sI (sA s9 25 (Int32.toNatClampNeg (gI (sA (sI s2 1228 ((gI s2 1228) + (1))) 24 (Int32.toNatClampNeg (gI (sI s2 1228 ((gI s2 1228) + (1))) 1231)) (2)) 1231)) v9) 1231 ((gI (sA s9 25 (Int32.toNatClampNeg (gI (sA (sI s2 1228 ((gI s2 1228) + (1))) 24 (Int32.toNatClampNeg (gI (sI s2 1228 ((gI s2 1228) + (1))) 1231)) (2)) 1231)) v9) 1231) + (1))) 1231) - (1)))) 0 then 156 else 152, [some (.ref 19), some (.int p0), some (.int p1), some (.int v2)], [], (sI (sA s9 25 (Int32.toNatClampNeg (gI (sA (sI s2 1228 ((gI s2 1228) + (1))) 24 (Int32.toNatClampNeg (gI (sI s2 1228 ((gI s2 1228) + (1))) 1231)) (2)) 1231)) v9) 1231 ((gI (sA s9 25 (Int32.toNatClampNeg (gI (sA (sI s2 1228 ((gI s2 1228) + (1))) 24 (Int32.toNatClampNeg (gI (sI s2 1228 ((gI s2 1228) + (1))) 1231)) (2)) 1231)) v9) 1231) + (1))))) 1 rfl ?_
                  rcases cnd_some h with ⟨hc, h⟩ | ⟨hc, h⟩
                  · refine RU.tt hc ?_
                    refine RU.blk (C' := (157, [some (.ref 19), some (.int p0), some (.int p1), some (.int v2)], [.int (0)], (sI (sA s9 25 (Int32.toNatClampNeg (gI (sA (sI s2 1228 ((gI s2 1228) + (1))) 24 (Int32.toNatClampNeg (gI (sI s2 1228 ((gI s2 1228) + (1))) 1231)) (2)) 1231)) v9) 1231 ((gI (sA s9 25 (Int32.toNatClampNeg (gI (sA (sI s2 1228 ((gI s2 1228) + (1))) 24 (Int32.toNatClampNeg (gI (sI s2 1228 ((gI s2 1228) + (1))) 1231)) (2)) 1231)) v9) 1231) + (1))))) 1 rfl ?_
                    obtain ⟨rfl, rfl⟩ := ret_inj h
                    exact RU.ret rfl rfl rfl
                  · refine RU.ff hc ?_
                    refine RU.blk (C' := (157, [some (.ref 19), some (.int p0), some (.int p1), some (.int v2)], [.int (1)], (sI (sA s9 25 (Int32.toNatClampNeg (gI (sA (sI s2 1228 ((gI s2 1228) + (1))) 24 (Int32.toNatClampNeg (gI (sI s2 1228 ((gI s2 1228) + (1))) 1231)) (2)) 1231)) v9) 1231 ((gI (sA s9 25 (Int32.toNatClampNeg (gI (sA (sI s2 1228 ((gI s2 1228) + (1))) 24 (Int32.toNatClampNeg (gI (sI s2 1228 ((gI s2 1228) + (1))) 1231)) (2)) 1231)) v9) 1231) + (1))))) 2 rfl ?_
                    obtain ⟨rfl, rfl⟩ := ret_inj h
                    exact RU.ret rfl rfl rfl
                · refine RU.ff hc ?_
                  refine RU.blk (C' := (108, [some (.ref 19), some (.int p0), some (.int p1), some (.int v2)], [.int (1), .int (gI (sI s2 1228 ((gI s2 1228) + (1))) 1231), .ref 24], (sI s2 1228 ((gI s2 1228) + (1))))) 2 rfl ?_
                  obtain ⟨hv, h⟩ := cnd_n h
                  refine RU.iast (N := 4) rfl rfl hv ?_
                  refine RU.blk (C' := (124, [some (.ref 19), some (.int p0), some (.int p1), some (.int v2)], [.int (9), .int (0), .int (0), .int p1, .int p0, .ref 19, .int (gI (sA (sI s2 1228 ((gI s2 1228) + (1))) 24 (Int32.toNatClampNeg (gI (sI s2 1228 ((gI s2 1228) + (1))) 1231)) (1)) 1231), .ref 25], (sA (sI s2 1228 ((gI s2 1228) + (1))) 24 (Int32.toNatClampNeg (gI (sI s2 1228 ((gI s2 1228) + (1))) 1231)) (1)))) 10 rfl ?_
                  obtain ⟨⟨v10, s10⟩, hk, h⟩ := Option.bind_eq_some_iff.mp h
                  dsimp only at h
                  refine RU.call (as := [.ref 19, .int p0, .int p1, .int (0), .int (0), .int (9)]) (rest := [.int (gI (sA (sI s2 1228 ((gI s2 1228) + (1))) 24 (Int32.toNatClampNeg (gI (sI s2 1228 ((gI s2 1228) + (1))) 1231)) (1)) 1231), .ref 25]) (u := some (.int v10)) (C' := (127, [some (.ref 19), some (.int p0), some (.int p1), some (.int v2)], [.int v10, .int (gI (sA (sI s2 1228 ((gI s2 1228) + (1))) 24 (Int32.toNatClampNeg (gI (sI s2 1228 ((gI s2 1228) + (1))) 1231)) (1)) 1231), .ref 25], s10)) rfl rfl (m_X5_figure p0 p1 (0) (0) (9) (sA (sI s2 1228 ((gI s2 1228) + (1))) 24 (Int32.toNatClampNeg (gI (sI s2 1228 ((gI s2 1228) + (1))) 1231)) (1)) hk) rfl rfl ?_
                  obtain ⟨hv, h⟩ := cnd_n h
                  refine RU.iast (N := 4) rfl rfl hv ?_
                  refine RU.blk (C' := (148, [some (.ref 19), some (.int p0), some (.int p1), some (.int v2)], [.int ((gI (sI (sA s10 25 (Int32.toNatClampNeg (gI (sA (sI s2 1228 ((gI s2 1228) + (1))) 24 (Int32.toNatClampNeg (gI (sI s2 1228 ((gI s2 1228) + (1))) 1231)) (1)) 1231)) v10) 1231 ((gI (sA s10 25 (Int32.toNatClampNeg (gI (sA (sI s2 1228 ((gI s2 1228) + (1))) 24 (Int32.toNatClampNeg (gI (sI s2 1228 ((gI s2 1228) + (1))) 1231)) (1)) 1231)) v10) 1231) + (1))) 1231) - (1)), .ref 25], (sI (sA s10 25 (Int32.toNatClampNeg (gI (sA (sI s2 1228 ((gI s2 1228) + (1))) 24 (Int32.toNatClampNeg (gI (sI s2 1228 ((gI s2 1228) + (1))) 1231)) (1)) 1231)) v10) 1231 ((gI (sA s10 25 (Int32.toNatClampNeg (gI (sA (sI s2 1228 ((gI s2 1228) + (1))) 24 (Int32.toNatClampNeg (gI (sI s2 1228 ((gI s2 1228) + (1))) 1231)) (1)) 1231)) v10) 1231) + (1))))) 12 rfl ?_
                  obtain ⟨hv, h⟩ := cnd_n h
                  refine RU.iald (N := 4) rfl rfl hv ?_
                  refine RU.blk (C' := (bif cLt (gA (sI (sA s10 25 (Int32.toNatClampNeg (gI (sA (sI s2 1228 ((gI s2 1228) + (1))) 24 (Int32.toNatClampNeg (gI (sI s2 1228 ((gI s2 1228) + (1))) 1231)) (1)) 1231)) v10) 1231 ((gI (sA s10 25 (Int32.toNatClampNeg (gI (sA (sI s2 1228 ((gI s2 1228) + (1))) 24 (Int32.toNatClampNeg (gI (sI s2 1228 ((gI s2 1228) + (1))) 1231)) (1)) 1231)) v10) 1231) + (1))) 25 (Int32.toNatClampNeg ((gI (sI (sA s10 25 (Int32.toNatClampNeg (gI (sA (sI s2 1228 ((gI s2 1228) + (1))) 24 (Int32.toNatClampNeg (gI (sI s2 1228 ((gI s2 1228) + (1))) 1231)) (1)) 1231)) v10) 1231 ((gI (sA s10 25 (Int32.toNatClampNeg (gI (sA (sI s2 1228 ((gI s2 1228) + (1))) 24 (Int32.toNatClampNeg (gI (sI s2 1228 ((gI s2 1228) + (1))) 1231)) (1)) 1231)) v10) 1231) + (1))) 1231) - (1)))) 0 then 156 else 152, [some (.ref 19), some (.int p0), some (.int p1), some (.int v2)], [], (sI (sA s10 25 (Int32.toNatClampNeg (gI (sA (sI s2 1228 ((gI s2 1228) + (1))) 24 (Int32.toNatClampNeg (gI (sI s2 1228 ((gI s2 1228) + (1))) 1231)) (1)) 1231)) v10) 1231 ((gI (sA s10 25 (Int32.toNatClampNeg (gI (sA (sI s2 1228 ((gI s2 1228) + (1))) 24 (Int32.toNatClampNeg (gI (sI s2 1228 ((gI s2 1228) + (1))) 1231)) (1)) 1231)) v10) 1231) + (1))))) 1 rfl ?_
                  rcases cnd_some h with ⟨hc, h⟩ | ⟨hc, h⟩
                  · refine RU.tt hc ?_
                    refine RU.blk (C' := (157, [some (.ref 19), some (.int p0), some (.int p1), some (.int v2)], [.int (0)], (sI (sA s10 25 (Int32.toNatClampNeg (gI (sA (sI s2 1228 ((gI s2 1228) + (1))) 24 (Int32.toNatClampNeg (gI (sI s2 1228 ((gI s2 1228) + (1))) 1231)) (1)) 1231)) v10) 1231 ((gI (sA s10 25 (Int32.toNatClampNeg (gI (sA (sI s2 1228 ((gI s2 1228) + (1))) 24 (Int32.toNatClampNeg (gI (sI s2 1228 ((gI s2 1228) + (1))) 1231)) (1)) 1231)) v10) 1231) + (1))))) 1 rfl ?_
                    obtain ⟨rfl, rfl⟩ := ret_inj h
                    exact RU.ret rfl rfl rfl
                  · refine RU.ff hc ?_
                    refine RU.blk (C' := (157, [some (.ref 19), some (.int p0), some (.int p1), some (.int v2)], [.int (1)], (sI (sA s10 25 (Int32.toNatClampNeg (gI (sA (sI s2 1228 ((gI s2 1228) + (1))) 24 (Int32.toNatClampNeg (gI (sI s2 1228 ((gI s2 1228) + (1))) 1231)) (1)) 1231)) v10) 1231 ((gI (sA s10 25 (Int32.toNatClampNeg (gI (sA (sI s2 1228 ((gI s2 1228) + (1))) 24 (Int32.toNatClampNeg (gI (sI s2 1228 ((gI s2 1228) + (1))) 1231)) (1)) 1231)) v10) 1231) + (1))))) 2 rfl ?_
                    obtain ⟨rfl, rfl⟩ := ret_inj h
                    exact RU.ret rfl rfl rfl
              · refine RU.ff hc ?_
                refine RU.blk (C' := (108, [some (.ref 19), some (.int p0), some (.int p1), some (.int v2)], [.int (0), .int (gI (sI s2 1228 ((gI s2 1228) + (1))) 1231), .ref 24], (sI s2 1228 ((gI s2 1228) + (1))))) 2 rfl ?_
                obtain ⟨hv, h⟩ := cnd_n h
                refine RU.iast (N := 4) rfl rfl hv ?_
                refine RU.blk (C' := (124, [some (.ref 19), some (.int p0), some (.int p1), some (.int v2)], [.int (9), .int (0), .int (0), .int p1, .int p0, .ref 19, .int (gI (sA (sI s2 1228 ((gI s2 1228) + (1))) 24 (Int32.toNatClampNeg (gI (sI s2 1228 ((gI s2 1228) + (1))) 1231)) (0)) 1231), .ref 25], (sA (sI s2 1228 ((gI s2 1228) + (1))) 24 (Int32.toNatClampNeg (gI (sI s2 1228 ((gI s2 1228) + (1))) 1231)) (0)))) 10 rfl ?_
                obtain ⟨⟨v11, s11⟩, hk, h⟩ := Option.bind_eq_some_iff.mp h
                dsimp only at h
                refine RU.call (as := [.ref 19, .int p0, .int p1, .int (0), .int (0), .int (9)]) (rest := [.int (gI (sA (sI s2 1228 ((gI s2 1228) + (1))) 24 (Int32.toNatClampNeg (gI (sI s2 1228 ((gI s2 1228) + (1))) 1231)) (0)) 1231), .ref 25]) (u := some (.int v11)) (C' := (127, [some (.ref 19), some (.int p0), some (.int p1), some (.int v2)], [.int v11, .int (gI (sA (sI s2 1228 ((gI s2 1228) + (1))) 24 (Int32.toNatClampNeg (gI (sI s2 1228 ((gI s2 1228) + (1))) 1231)) (0)) 1231), .ref 25], s11)) rfl rfl (m_X5_figure p0 p1 (0) (0) (9) (sA (sI s2 1228 ((gI s2 1228) + (1))) 24 (Int32.toNatClampNeg (gI (sI s2 1228 ((gI s2 1228) + (1))) 1231)) (0)) hk) rfl rfl ?_
                obtain ⟨hv, h⟩ := cnd_n h
                refine RU.iast (N := 4) rfl rfl hv ?_
                refine RU.blk (C' := (148, [some (.ref 19), some (.int p0), some (.int p1), some (.int v2)], [.int ((gI (sI (sA s11 25 (Int32.toNatClampNeg (gI (sA (sI s2 1228 ((gI s2 1228) + (1))) 24 (Int32.toNatClampNeg (gI (sI s2 1228 ((gI s2 1228) + (1))) 1231)) (0)) 1231)) v11) 1231 ((gI (sA s11 25 (Int32.toNatClampNeg (gI (sA (sI s2 1228 ((gI s2 1228) + (1))) 24 (Int32.toNatClampNeg (gI (sI s2 1228 ((gI s2 1228) + (1))) 1231)) (0)) 1231)) v11) 1231) + (1))) 1231) - (1)), .ref 25], (sI (sA s11 25 (Int32.toNatClampNeg (gI (sA (sI s2 1228 ((gI s2 1228) + (1))) 24 (Int32.toNatClampNeg (gI (sI s2 1228 ((gI s2 1228) + (1))) 1231)) (0)) 1231)) v11) 1231 ((gI (sA s11 25 (Int32.toNatClampNeg (gI (sA (sI s2 1228 ((gI s2 1228) + (1))) 24 (Int32.toNatClampNeg (gI (sI s2 1228 ((gI s2 1228) + (1))) 1231)) (0)) 1231)) v11) 1231) + (1))))) 12 rfl ?_
                obtain ⟨hv, h⟩ := cnd_n h
                refine RU.iald (N := 4) rfl rfl hv ?_
                refine RU.blk (C' := (bif cLt (gA (sI (sA s11 25 (Int32.toNatClampNeg (gI (sA (sI s2 1228 ((gI s2 1228) + (1))) 24 (Int32.toNatClampNeg (gI (sI s2 1228 ((gI s2 1228) + (1))) 1231)) (0)) 1231)) v11) 1231 ((gI (sA s11 25 (Int32.toNatClampNeg (gI (sA (sI s2 1228 ((gI s2 1228) + (1))) 24 (Int32.toNatClampNeg (gI (sI s2 1228 ((gI s2 1228) + (1))) 1231)) (0)) 1231)) v11) 1231) + (1))) 25 (Int32.toNatClampNeg ((gI (sI (sA s11 25 (Int32.toNatClampNeg (gI (sA (sI s2 1228 ((gI s2 1228) + (1))) 24 (Int32.toNatClampNeg (gI (sI s2 1228 ((gI s2 1228) + (1))) 1231)) (0)) 1231)) v11) 1231 ((gI (sA s11 25 (Int32.toNatClampNeg (gI (sA (sI s2 1228 ((gI s2 1228) + (1))) 24 (Int32.toNatClampNeg (gI (sI s2 1228 ((gI s2 1228) + (1))) 1231)) (0)) 1231)) v11) 1231) + (1))) 1231) - (1)))) 0 then 156 else 152, [some (.ref 19), some (.int p0), some (.int p1), some (.int v2)], [], (sI (sA s11 25 (Int32.toNatClampNeg (gI (sA (sI s2 1228 ((gI s2 1228) + (1))) 24 (Int32.toNatClampNeg (gI (sI s2 1228 ((gI s2 1228) + (1))) 1231)) (0)) 1231)) v11) 1231 ((gI (sA s11 25 (Int32.toNatClampNeg (gI (sA (sI s2 1228 ((gI s2 1228) + (1))) 24 (Int32.toNatClampNeg (gI (sI s2 1228 ((gI s2 1228) + (1))) 1231)) (0)) 1231)) v11) 1231) + (1))))) 1 rfl ?_
                rcases cnd_some h with ⟨hc, h⟩ | ⟨hc, h⟩
                · refine RU.tt hc ?_
                  refine RU.blk (C' := (157, [some (.ref 19), some (.int p0), some (.int p1), some (.int v2)], [.int (0)], (sI (sA s11 25 (Int32.toNatClampNeg (gI (sA (sI s2 1228 ((gI s2 1228) + (1))) 24 (Int32.toNatClampNeg (gI (sI s2 1228 ((gI s2 1228) + (1))) 1231)) (0)) 1231)) v11) 1231 ((gI (sA s11 25 (Int32.toNatClampNeg (gI (sA (sI s2 1228 ((gI s2 1228) + (1))) 24 (Int32.toNatClampNeg (gI (sI s2 1228 ((gI s2 1228) + (1))) 1231)) (0)) 1231)) v11) 1231) + (1))))) 1 rfl ?_
                  obtain ⟨rfl, rfl⟩ := ret_inj h
                  exact RU.ret rfl rfl rfl
                · refine RU.ff hc ?_
                  refine RU.blk (C' := (157, [some (.ref 19), some (.int p0), some (.int p1), some (.int v2)], [.int (1)], (sI (sA s11 25 (Int32.toNatClampNeg (gI (sA (sI s2 1228 ((gI s2 1228) + (1))) 24 (Int32.toNatClampNeg (gI (sI s2 1228 ((gI s2 1228) + (1))) 1231)) (0)) 1231)) v11) 1231 ((gI (sA s11 25 (Int32.toNatClampNeg (gI (sA (sI s2 1228 ((gI s2 1228) + (1))) 24 (Int32.toNatClampNeg (gI (sI s2 1228 ((gI s2 1228) + (1))) 1231)) (0)) 1231)) v11) 1231) + (1))))) 2 rfl ?_
                  obtain ⟨rfl, rfl⟩ := ret_inj h
                  exact RU.ret rfl rfl rfl
            · refine RU.ff hc ?_
              refine RU.blk (C' := (68, [some (.ref 19), some (.int p0), some (.int p1), some (.int v2)], [.int (0)], s2)) 1 rfl ?_
              obtain ⟨rfl, rfl⟩ := ret_inj h
              exact RU.ret rfl rfl rfl
      · refine RU.ff hc ?_
        refine RU.blk (C' := (31, [some (.ref 19), some (.int p0), some (.int p1), none], [.int (0)], s1)) 1 rfl ?_
        obtain ⟨rfl, rfl⟩ := ret_inj h
        exact RU.ret rfl rfl rfl
noncomputable def L_X5_readsSea  : Nat → Int32 → Int32 → Int32 → PS → Option (Int32 × PS)
  | 0, _, _, _, _ => none
  | n + 1, x1, x2, x3, σ => 
    bif cEq x3 0 then (
      bif cNe x3 0 then (
        (F_X5_figure x1 x2 (0) (0) ((gI (sI σ 1228 ((gI σ 1228) + (1))) 1229) - (gI (sI σ 1228 ((gI σ 1228) + (1))) 1231)) (sI σ 1228 ((gI σ 1228) + (1)))).bind fun q1 =>
        let v1 := q1.1
        let s1 := q1.2
        (F_X5_figure x1 x2 (gI (sI s1 1232 v1) 1232) (0) ((gI (sI s1 1232 v1) 1230) - (1)) (sI s1 1232 v1)).bind fun q2 =>
        let v2 := q2.1
        let s2 := q2.2
        bif cLt (gI (sI s2 1233 v2) 1233) 0 then (
          some ((0), (sI s2 1233 v2))
        ) else (
          bif cNe (gI (sI s2 1233 v2) 1228) x2 then (
            some ((0), (sI s2 1233 v2))
          ) else (
            some ((1), (sI s2 1233 v2))
          )
        )
      ) else (
        some ((0), σ)
      )
    ) else (
      bif cEq (gI σ 1231) 0 then (
        (F_X5_readsLooker x1 x2 σ).bind fun q3 =>
        let v3 := q3.1
        let s3 := q3.2
        L_X5_readsSea n  x1 x2 v3 s3
      ) else (
        (F_X5_codeAt x1 x2 σ).bind fun q4 =>
        let v4 := q4.1
        let s4 := q4.2
        bif cEq v4 (47) then (
          bif cNe x3 0 then (
            (F_X5_figure x1 x2 (0) (0) ((gI (sI s4 1228 ((gI s4 1228) + (1))) 1229) - (gI (sI s4 1228 ((gI s4 1228) + (1))) 1231)) (sI s4 1228 ((gI s4 1228) + (1)))).bind fun q5 =>
            let v5 := q5.1
            let s5 := q5.2
            (F_X5_figure x1 x2 (gI (sI s5 1232 v5) 1232) (0) ((gI (sI s5 1232 v5) 1230) - (1)) (sI s5 1232 v5)).bind fun q6 =>
            let v6 := q6.1
            let s6 := q6.2
            bif cLt (gI (sI s6 1233 v6) 1233) 0 then (
              some ((0), (sI s6 1233 v6))
            ) else (
              bif cNe (gI (sI s6 1233 v6) 1228) x2 then (
                some ((0), (sI s6 1233 v6))
              ) else (
                some ((1), (sI s6 1233 v6))
              )
            )
          ) else (
            some ((0), s4)
          )
        ) else (
          (F_X5_readsLooker x1 x2 s4).bind fun q7 =>
          let v7 := q7.1
          let s7 := q7.2
          L_X5_readsSea n  x1 x2 v7 s7
        )
      )
    )
set_option maxRecDepth 50000 in
theorem ml_X5_readsSea  (n : Nat) : (∀ (x1 : Int32) (x2 : Int32) (x3 : Int32) (σ : PS) (v : Int32) (σ' : PS), L_X5_readsSea n x1 x2 x3 σ = some (v, σ') → RU ubX5_readsSea 3 76 (40, [some (.ref 19), some (.int x1), some (.int x2), some (.int x3)], [], σ) (some (.int v)) σ') := by
  induction n with
  | zero =>
    intro x1 x2 x3 σ v σ' h; exact absurd (show (none : Option (Int32 × PS)) = some (v, σ') from h) (by simp)
  | succ n ih =>
    intro x1 x2 x3 σ v σ' h
    rw [L_X5_readsSea] at h
    refine RU.blk (C' := (bif cEq x3 0 then 72 else 44, [some (.ref 19), some (.int x1), some (.int x2), some (.int x3)], [], σ)) 2 rfl ?_
    rcases cnd_some h with ⟨hc, h⟩ | ⟨hc, h⟩
    · refine RU.tt hc ?_
      refine RU.blk (C' := (bif cNe x3 0 then 78 else 76, [some (.ref 19), some (.int x1), some (.int x2), some (.int x3)], [], σ)) 2 rfl ?_
      rcases cnd_some h with ⟨hc, h⟩ | ⟨hc, h⟩
      · refine RU.tt hc ?_
        refine RU.blk (C' := (103, [some (.ref 19), some (.int x1), some (.int x2), some (.int x3)], [.int ((gI (sI σ 1228 ((gI σ 1228) + (1))) 1229) - (gI (sI σ 1228 ((gI σ 1228) + (1))) 1231)), .int (0), .int (0), .int x2, .int x1, .ref 19, .ref 19], (sI σ 1228 ((gI σ 1228) + (1))))) 17 rfl ?_
        obtain ⟨⟨v1, s1⟩, hk, h⟩ := Option.bind_eq_some_iff.mp h
        dsimp only at h
        refine RU.call (as := [.ref 19, .int x1, .int x2, .int (0), .int (0), .int ((gI (sI σ 1228 ((gI σ 1228) + (1))) 1229) - (gI (sI σ 1228 ((gI σ 1228) + (1))) 1231))]) (rest := [.ref 19]) (u := some (.int v1)) (C' := (106, [some (.ref 19), some (.int x1), some (.int x2), some (.int x3)], [.int v1, .ref 19], s1)) rfl rfl (m_X5_figure x1 x2 (0) (0) ((gI (sI σ 1228 ((gI σ 1228) + (1))) 1229) - (gI (sI σ 1228 ((gI σ 1228) + (1))) 1231)) (sI σ 1228 ((gI σ 1228) + (1))) hk) rfl rfl ?_
        refine RU.blk (C' := (124, [some (.ref 19), some (.int x1), some (.int x2), some (.int x3)], [.int ((gI (sI s1 1232 v1) 1230) - (1)), .int (0), .int (gI (sI s1 1232 v1) 1232), .int x2, .int x1, .ref 19, .ref 19], (sI s1 1232 v1))) 12 rfl ?_
        obtain ⟨⟨v2, s2⟩, hk, h⟩ := Option.bind_eq_some_iff.mp h
        dsimp only at h
        refine RU.call (as := [.ref 19, .int x1, .int x2, .int (gI (sI s1 1232 v1) 1232), .int (0), .int ((gI (sI s1 1232 v1) 1230) - (1))]) (rest := [.ref 19]) (u := some (.int v2)) (C' := (127, [some (.ref 19), some (.int x1), some (.int x2), some (.int x3)], [.int v2, .ref 19], s2)) rfl rfl (m_X5_figure x1 x2 (gI (sI s1 1232 v1) 1232) (0) ((gI (sI s1 1232 v1) 1230) - (1)) (sI s1 1232 v1) hk) rfl rfl ?_
        refine RU.blk (C' := (bif cLt (gI (sI s2 1233 v2) 1233) 0 then 149 else 137, [some (.ref 19), some (.int x1), some (.int x2), some (.int x3)], [], (sI s2 1233 v2))) 4 rfl ?_
        rcases cnd_some h with ⟨hc, h⟩ | ⟨hc, h⟩
        · refine RU.tt hc ?_
          refine RU.blk (C' := (150, [some (.ref 19), some (.int x1), some (.int x2), some (.int x3)], [.int (0)], (sI s2 1233 v2))) 1 rfl ?_
          obtain ⟨rfl, rfl⟩ := ret_inj h
          exact RU.ret rfl rfl rfl
        · refine RU.ff hc ?_
          refine RU.blk (C' := (bif cNe (gI (sI s2 1233 v2) 1228) x2 then 149 else 145, [some (.ref 19), some (.int x1), some (.int x2), some (.int x3)], [], (sI s2 1233 v2))) 4 rfl ?_
          rcases cnd_some h with ⟨hc, h⟩ | ⟨hc, h⟩
          · refine RU.tt hc ?_
            refine RU.blk (C' := (150, [some (.ref 19), some (.int x1), some (.int x2), some (.int x3)], [.int (0)], (sI s2 1233 v2))) 1 rfl ?_
            obtain ⟨rfl, rfl⟩ := ret_inj h
            exact RU.ret rfl rfl rfl
          · refine RU.ff hc ?_
            refine RU.blk (C' := (150, [some (.ref 19), some (.int x1), some (.int x2), some (.int x3)], [.int (1)], (sI s2 1233 v2))) 2 rfl ?_
            obtain ⟨rfl, rfl⟩ := ret_inj h
            exact RU.ret rfl rfl rfl
      · refine RU.ff hc ?_
        refine RU.blk (C' := (77, [some (.ref 19), some (.int x1), some (.int x2), some (.int x3)], [.int (0)], σ)) 1 rfl ?_
        obtain ⟨rfl, rfl⟩ := ret_inj h
        exact RU.ret rfl rfl rfl
    · refine RU.ff hc ?_
      refine RU.blk (C' := (bif cEq (gI σ 1231) 0 then 62 else 51, [some (.ref 19), some (.int x1), some (.int x2), some (.int x3)], [], σ)) 3 rfl ?_
      rcases cnd_some h with ⟨hc, h⟩ | ⟨hc, h⟩
      · refine RU.tt hc ?_
        refine RU.blk (C' := (65, [some (.ref 19), some (.int x1), some (.int x2), some (.int x3)], [.int x2, .int x1, .ref 19], σ)) 3 rfl ?_
        obtain ⟨⟨v3, s3⟩, hk, h⟩ := Option.bind_eq_some_iff.mp h
        dsimp only at h
        refine RU.call (as := [.ref 19, .int x1, .int x2]) (rest := []) (u := some (.int v3)) (C' := (68, [some (.ref 19), some (.int x1), some (.int x2), some (.int x3)], [.int v3], s3)) rfl rfl (m_X5_readsLooker x1 x2 σ hk) rfl rfl ?_
        refine RU.blk (C' := (40, [some (.ref 19), some (.int x1), some (.int x2), some (.int v3)], [], s3)) 2 rfl ?_
        exact ih x1 x2 v3 _ _ _ h
      · refine RU.ff hc ?_
        refine RU.blk (C' := (54, [some (.ref 19), some (.int x1), some (.int x2), some (.int x3)], [.int x2, .int x1, .ref 19], σ)) 3 rfl ?_
        obtain ⟨⟨v4, s4⟩, hk, h⟩ := Option.bind_eq_some_iff.mp h
        dsimp only at h
        refine RU.call (as := [.ref 19, .int x1, .int x2]) (rest := []) (u := some (.int v4)) (C' := (57, [some (.ref 19), some (.int x1), some (.int x2), some (.int x3)], [.int v4], s4)) rfl rfl (m_X5_codeAt x1 x2 σ hk) rfl rfl ?_
        refine RU.blk (C' := (bif cEq v4 (47) then 72 else 62, [some (.ref 19), some (.int x1), some (.int x2), some (.int x3)], [], s4)) 2 rfl ?_
        rcases cnd_some h with ⟨hc, h⟩ | ⟨hc, h⟩
        · refine RU.tt hc ?_
          refine RU.blk (C' := (bif cNe x3 0 then 78 else 76, [some (.ref 19), some (.int x1), some (.int x2), some (.int x3)], [], s4)) 2 rfl ?_
          rcases cnd_some h with ⟨hc, h⟩ | ⟨hc, h⟩
          · refine RU.tt hc ?_
            refine RU.blk (C' := (103, [some (.ref 19), some (.int x1), some (.int x2), some (.int x3)], [.int ((gI (sI s4 1228 ((gI s4 1228) + (1))) 1229) - (gI (sI s4 1228 ((gI s4 1228) + (1))) 1231)), .int (0), .int (0), .int x2, .int x1, .ref 19, .ref 19], (sI s4 1228 ((gI s4 1228) + (1))))) 17 rfl ?_
            obtain ⟨⟨v5, s5⟩, hk, h⟩ := Option.bind_eq_some_iff.mp h
            dsimp only at h
            refine RU.call (as := [.ref 19, .int x1, .int x2, .int (0), .int (0), .int ((gI (sI s4 1228 ((gI s4 1228) + (1))) 1229) - (gI (sI s4 1228 ((gI s4 1228) + (1))) 1231))]) (rest := [.ref 19]) (u := some (.int v5)) (C' := (106, [some (.ref 19), some (.int x1), some (.int x2), some (.int x3)], [.int v5, .ref 19], s5)) rfl rfl (m_X5_figure x1 x2 (0) (0) ((gI (sI s4 1228 ((gI s4 1228) + (1))) 1229) - (gI (sI s4 1228 ((gI s4 1228) + (1))) 1231)) (sI s4 1228 ((gI s4 1228) + (1))) hk) rfl rfl ?_
            refine RU.blk (C' := (124, [some (.ref 19), some (.int x1), some (.int x2), some (.int x3)], [.int ((gI (sI s5 1232 v5) 1230) - (1)), .int (0), .int (gI (sI s5 1232 v5) 1232), .int x2, .int x1, .ref 19, .ref 19], (sI s5 1232 v5))) 12 rfl ?_
            obtain ⟨⟨v6, s6⟩, hk, h⟩ := Option.bind_eq_some_iff.mp h
            dsimp only at h
            refine RU.call (as := [.ref 19, .int x1, .int x2, .int (gI (sI s5 1232 v5) 1232), .int (0), .int ((gI (sI s5 1232 v5) 1230) - (1))]) (rest := [.ref 19]) (u := some (.int v6)) (C' := (127, [some (.ref 19), some (.int x1), some (.int x2), some (.int x3)], [.int v6, .ref 19], s6)) rfl rfl (m_X5_figure x1 x2 (gI (sI s5 1232 v5) 1232) (0) ((gI (sI s5 1232 v5) 1230) - (1)) (sI s5 1232 v5) hk) rfl rfl ?_
            refine RU.blk (C' := (bif cLt (gI (sI s6 1233 v6) 1233) 0 then 149 else 137, [some (.ref 19), some (.int x1), some (.int x2), some (.int x3)], [], (sI s6 1233 v6))) 4 rfl ?_
            rcases cnd_some h with ⟨hc, h⟩ | ⟨hc, h⟩
            · refine RU.tt hc ?_
              refine RU.blk (C' := (150, [some (.ref 19), some (.int x1), some (.int x2), some (.int x3)], [.int (0)], (sI s6 1233 v6))) 1 rfl ?_
              obtain ⟨rfl, rfl⟩ := ret_inj h
              exact RU.ret rfl rfl rfl
            · refine RU.ff hc ?_
              refine RU.blk (C' := (bif cNe (gI (sI s6 1233 v6) 1228) x2 then 149 else 145, [some (.ref 19), some (.int x1), some (.int x2), some (.int x3)], [], (sI s6 1233 v6))) 4 rfl ?_
              rcases cnd_some h with ⟨hc, h⟩ | ⟨hc, h⟩
              · refine RU.tt hc ?_
                refine RU.blk (C' := (150, [some (.ref 19), some (.int x1), some (.int x2), some (.int x3)], [.int (0)], (sI s6 1233 v6))) 1 rfl ?_
                obtain ⟨rfl, rfl⟩ := ret_inj h
                exact RU.ret rfl rfl rfl
              · refine RU.ff hc ?_
                refine RU.blk (C' := (150, [some (.ref 19), some (.int x1), some (.int x2), some (.int x3)], [.int (1)], (sI s6 1233 v6))) 2 rfl ?_
                obtain ⟨rfl, rfl⟩ := ret_inj h
                exact RU.ret rfl rfl rfl
          · refine RU.ff hc ?_
            refine RU.blk (C' := (77, [some (.ref 19), some (.int x1), some (.int x2), some (.int x3)], [.int (0)], s4)) 1 rfl ?_
            obtain ⟨rfl, rfl⟩ := ret_inj h
            exact RU.ret rfl rfl rfl
        · refine RU.ff hc ?_
          refine RU.blk (C' := (65, [some (.ref 19), some (.int x1), some (.int x2), some (.int x3)], [.int x2, .int x1, .ref 19], s4)) 3 rfl ?_
          obtain ⟨⟨v7, s7⟩, hk, h⟩ := Option.bind_eq_some_iff.mp h
          dsimp only at h
          refine RU.call (as := [.ref 19, .int x1, .int x2]) (rest := []) (u := some (.int v7)) (C' := (68, [some (.ref 19), some (.int x1), some (.int x2), some (.int x3)], [.int v7], s7)) rfl rfl (m_X5_readsLooker x1 x2 s4 hk) rfl rfl ?_
          refine RU.blk (C' := (40, [some (.ref 19), some (.int x1), some (.int x2), some (.int v7)], [], s7)) 2 rfl ?_
          exact ih x1 x2 v7 _ _ _ h
noncomputable def F_X5_readsSea (p0 : Int32) (p1 : Int32) (σ : PS) : Option (Int32 × PS) :=
  (F_X5_codeAt p0 p1 (sI (sI σ 1228 (0)) 1231 (0))).bind fun q8 =>
  let v8 := q8.1
  let s8 := q8.2
  bif cEq v8 (102) then (
    (F_X5_readsFloor p0 p1 (sI s8 1228 ((gI s8 1228) + (1)))).bind fun q9 =>
    let v9 := q9.1
    let s9 := q9.2
    L_X5_readsSea fuelN  p0 p1 v9 s9
  ) else (
    some ((0), s8)
  )
set_option maxRecDepth 50000 in
theorem m_X5_readsSea (p0 : Int32) (p1 : Int32) (σ : PS) {v : Int32} {σ' : PS} (h : F_X5_readsSea p0 p1 σ = some (v, σ')) : PR 136 [.ref 19, .int p0, .int p1] σ (some (.int v)) σ' := by
  refine PR.enter (L := [some (.ref 19), some (.int p0), some (.int p1), none]) uT_136 uD_136 rfl rfl ?_
  unfold F_X5_readsSea at h
  refine RU.blk (C' := (13, [some (.ref 19), some (.int p0), some (.int p1), none], [.int p1, .int p0, .ref 19], (sI (sI σ 1228 (0)) 1231 (0)))) 9 rfl ?_
  obtain ⟨⟨v8, s8⟩, hk, h⟩ := Option.bind_eq_some_iff.mp h
  dsimp only at h
  refine RU.call (as := [.ref 19, .int p0, .int p1]) (rest := []) (u := some (.int v8)) (C' := (16, [some (.ref 19), some (.int p0), some (.int p1), none], [.int v8], s8)) rfl rfl (m_X5_codeAt p0 p1 (sI (sI σ 1228 (0)) 1231 (0)) hk) rfl rfl ?_
  refine RU.blk (C' := (bif cEq v8 (102) then 23 else 21, [some (.ref 19), some (.int p0), some (.int p1), none], [], s8)) 2 rfl ?_
  rcases cnd_some h with ⟨hc, h⟩ | ⟨hc, h⟩
  · refine RU.tt hc ?_
    refine RU.blk (C' := (36, [some (.ref 19), some (.int p0), some (.int p1), none], [.int p1, .int p0, .ref 19], (sI s8 1228 ((gI s8 1228) + (1))))) 9 rfl ?_
    obtain ⟨⟨v9, s9⟩, hk, h⟩ := Option.bind_eq_some_iff.mp h
    dsimp only at h
    refine RU.call (as := [.ref 19, .int p0, .int p1]) (rest := []) (u := some (.int v9)) (C' := (39, [some (.ref 19), some (.int p0), some (.int p1), none], [.int v9], s9)) rfl rfl (m_X5_readsFloor p0 p1 (sI s8 1228 ((gI s8 1228) + (1))) hk) rfl rfl ?_
    refine RU.blk (C' := (40, [some (.ref 19), some (.int p0), some (.int p1), some (.int v9)], [], s9)) 1 rfl ?_
    exact (ml_X5_readsSea fuelN) p0 p1 v9 _ _ _ h
  · refine RU.ff hc ?_
    refine RU.blk (C' := (22, [some (.ref 19), some (.int p0), some (.int p1), none], [.int (0)], s8)) 1 rfl ?_
    obtain ⟨rfl, rfl⟩ := ret_inj h
    exact RU.ret rfl rfl rfl
noncomputable def F_X5_isBeyond (p0 : Int32) (p1 : Int64) (p2 : Int32) (σ : PS) : Option (Int32 × PS) :=
  bif cLt p0 0 then (
    some ((1), σ)
  ) else (
    bif cLt (lg_cmp p1 0) 0 then (
      some ((1), σ)
    ) else (
      bif cLe (lg_cmp ((Int32.toInt64 p0) + p1) (Int32.toInt64 p2)) 0 then (
        some ((0), σ)
      ) else (
        some ((1), σ)
      )
    )
  )
set_option maxRecDepth 50000 in
theorem m_X5_isBeyond (p0 : Int32) (p1 : Int64) (p2 : Int32) (σ : PS) {v : Int32} {σ' : PS} (h : F_X5_isBeyond p0 p1 p2 σ = some (v, σ')) : PR 185 [.int p0, .long p1, .int p2] σ (some (.int v)) σ' := by
  refine PR.enter (L := [some (.int p0), some (.long p1), none, some (.int p2)]) uT_185 uD_185 rfl rfl ?_
  unfold F_X5_isBeyond at h
  refine RU.blk (C' := (bif cLt p0 0 then 20 else 4, [some (.int p0), some (.long p1), none, some (.int p2)], [], σ)) 2 rfl ?_
  rcases cnd_some h with ⟨hc, h⟩ | ⟨hc, h⟩
  · refine RU.tt hc ?_
    refine RU.blk (C' := (25, [some (.int p0), some (.long p1), none, some (.int p2)], [.int (1)], σ)) 2 rfl ?_
    obtain ⟨rfl, rfl⟩ := ret_inj h
    exact RU.ret rfl rfl rfl
  · refine RU.ff hc ?_
    refine RU.blk (C' := (bif cLt (lg_cmp p1 0) 0 then 20 else 10, [some (.int p0), some (.long p1), none, some (.int p2)], [], σ)) 4 rfl ?_
    rcases cnd_some h with ⟨hc, h⟩ | ⟨hc, h⟩
    · refine RU.tt hc ?_
      refine RU.blk (C' := (25, [some (.int p0), some (.long p1), none, some (.int p2)], [.int (1)], σ)) 2 rfl ?_
      obtain ⟨rfl, rfl⟩ := ret_inj h
      exact RU.ret rfl rfl rfl
    · refine RU.ff hc ?_
      refine RU.blk (C' := (bif cLe (lg_cmp ((Int32.toInt64 p0) + p1) (Int32.toInt64 p2)) 0 then 24 else 20, [some (.int p0), some (.long p1), none, some (.int p2)], [], σ)) 8 rfl ?_
      rcases cnd_some h with ⟨hc, h⟩ | ⟨hc, h⟩
      · refine RU.tt hc ?_
        refine RU.blk (C' := (25, [some (.int p0), some (.long p1), none, some (.int p2)], [.int (0)], σ)) 1 rfl ?_
        obtain ⟨rfl, rfl⟩ := ret_inj h
        exact RU.ret rfl rfl rfl
      · refine RU.ff hc ?_
        refine RU.blk (C' := (25, [some (.int p0), some (.long p1), none, some (.int p2)], [.int (1)], σ)) 2 rfl ?_
        obtain ⟨rfl, rfl⟩ := ret_inj h
        exact RU.ret rfl rfl rfl
noncomputable def F_X5_cellsBarred (p0 : Int32) (p1 : Int32) (p2 : Int32) (p3 : Int64) (σ : PS) : Option (Int32 × PS) :=
  bif vin p0 4 then
  bif cLt (gA σ 30 (Int32.toNatClampNeg p0)) 0 then (
    bif vin p0 4 then
    bif cGe (gA σ 30 (Int32.toNatClampNeg p0)) 0 then (
      bif cGe (lg_cmp p3 0) 0 then (
        bif vin p0 4 then
        (F_X5_isBeyond p2 p3 (gA σ 30 (Int32.toNatClampNeg p0)) σ).bind fun q1 =>
        let v1 := q1.1
        let s1 := q1.2
        bif cEq v1 0 then (
          some ((0), s1)
        ) else (
          (F_X5_failed (3) s1).bind fun q2 =>
          let v2 := q2.1
          let s2 := q2.2
          some (v2, s2)
        )
        else none
      ) else (
        (F_X5_failed (4) σ).bind fun q3 =>
        let v3 := q3.1
        let s3 := q3.2
        some (v3, s3)
      )
    ) else (
      (F_X5_failed (1) σ).bind fun q4 =>
      let v4 := q4.1
      let s4 := q4.2
      some (v4, s4)
    )
    else none
  ) else (
    bif vin p0 4 then
    bif cEq (gA σ 31 (Int32.toNatClampNeg p0)) p1 then (
      bif vin p0 4 then
      bif cGe (gA σ 30 (Int32.toNatClampNeg p0)) 0 then (
        bif cGe (lg_cmp p3 0) 0 then (
          bif vin p0 4 then
          (F_X5_isBeyond p2 p3 (gA σ 30 (Int32.toNatClampNeg p0)) σ).bind fun q5 =>
          let v5 := q5.1
          let s5 := q5.2
          bif cEq v5 0 then (
            some ((0), s5)
          ) else (
            (F_X5_failed (3) s5).bind fun q6 =>
            let v6 := q6.1
            let s6 := q6.2
            some (v6, s6)
          )
          else none
        ) else (
          (F_X5_failed (4) σ).bind fun q7 =>
          let v7 := q7.1
          let s7 := q7.2
          some (v7, s7)
        )
      ) else (
        (F_X5_failed (1) σ).bind fun q8 =>
        let v8 := q8.1
        let s8 := q8.2
        some (v8, s8)
      )
      else none
    ) else (
      (F_X5_failed (2) σ).bind fun q9 =>
      let v9 := q9.1
      let s9 := q9.2
      some (v9, s9)
    )
    else none
  )
  else none
set_option maxRecDepth 50000 in
theorem m_X5_cellsBarred (p0 : Int32) (p1 : Int32) (p2 : Int32) (p3 : Int64) (σ : PS) {v : Int32} {σ' : PS} (h : F_X5_cellsBarred p0 p1 p2 p3 σ = some (v, σ')) : PR 137 [.ref 19, .int p0, .int p1, .int p2, .long p3] σ (some (.int v)) σ' := by
  refine PR.enter (L := [some (.ref 19), some (.int p0), some (.int p1), some (.int p2), some (.long p3), none]) uT_137 uD_137 rfl rfl ?_
  unfold F_X5_cellsBarred at h
  refine RU.blk (C' := (5, [some (.ref 19), some (.int p0), some (.int p1), some (.int p2), some (.long p3), none], [.int p0, .ref 30], σ)) 3 rfl ?_
  obtain ⟨hv, h⟩ := cnd_n h
  refine RU.iald (N := 4) rfl rfl hv ?_
  refine RU.blk (C' := (bif cLt (gA σ 30 (Int32.toNatClampNeg p0)) 0 then 25 else 9, [some (.ref 19), some (.int p0), some (.int p1), some (.int p2), some (.long p3), none], [], σ)) 1 rfl ?_
  rcases cnd_some h with ⟨hc, h⟩ | ⟨hc, h⟩
  · refine RU.tt hc ?_
    refine RU.blk (C' := (30, [some (.ref 19), some (.int p0), some (.int p1), some (.int p2), some (.long p3), none], [.int p0, .ref 30], σ)) 3 rfl ?_
    obtain ⟨hv, h⟩ := cnd_n h
    refine RU.iald (N := 4) rfl rfl hv ?_
    refine RU.blk (C' := (bif cGe (gA σ 30 (Int32.toNatClampNeg p0)) 0 then 40 else 34, [some (.ref 19), some (.int p0), some (.int p1), some (.int p2), some (.long p3), none], [], σ)) 1 rfl ?_
    rcases cnd_some h with ⟨hc, h⟩ | ⟨hc, h⟩
    · refine RU.tt hc ?_
      refine RU.blk (C' := (bif cGe (lg_cmp p3 0) 0 then 53 else 47, [some (.ref 19), some (.int p0), some (.int p1), some (.int p2), some (.long p3), none], [], σ)) 4 rfl ?_
      rcases cnd_some h with ⟨hc, h⟩ | ⟨hc, h⟩
      · refine RU.tt hc ?_
        refine RU.blk (C' := (61, [some (.ref 19), some (.int p0), some (.int p1), some (.int p2), some (.long p3), none], [.int p0, .ref 30, .long p3, .int p2], σ)) 5 rfl ?_
        obtain ⟨hv, h⟩ := cnd_n h
        refine RU.iald (N := 4) rfl rfl hv ?_
        obtain ⟨⟨v1, s1⟩, hk, h⟩ := Option.bind_eq_some_iff.mp h
        dsimp only at h
        refine RU.call (as := [.int p2, .long p3, .int (gA σ 30 (Int32.toNatClampNeg p0))]) (rest := []) (u := some (.int v1)) (C' := (65, [some (.ref 19), some (.int p0), some (.int p1), some (.int p2), some (.long p3), none], [.int v1], s1)) rfl rfl (m_X5_isBeyond p2 p3 (gA σ 30 (Int32.toNatClampNeg p0)) σ hk) rfl rfl ?_
        refine RU.blk (C' := (bif cEq v1 0 then 76 else 68, [some (.ref 19), some (.int p0), some (.int p1), some (.int p2), some (.long p3), none], [], s1)) 1 rfl ?_
        rcases cnd_some h with ⟨hc, h⟩ | ⟨hc, h⟩
        · refine RU.tt hc ?_
          refine RU.blk (C' := (77, [some (.ref 19), some (.int p0), some (.int p1), some (.int p2), some (.long p3), none], [.int (0)], s1)) 1 rfl ?_
          obtain ⟨rfl, rfl⟩ := ret_inj h
          exact RU.ret rfl rfl rfl
        · refine RU.ff hc ?_
          refine RU.blk (C' := (70, [some (.ref 19), some (.int p0), some (.int p1), some (.int p2), some (.long p3), none], [.int (3), .ref 19], s1)) 2 rfl ?_
          obtain ⟨⟨v2, s2⟩, hk, h⟩ := Option.bind_eq_some_iff.mp h
          dsimp only at h
          refine RU.call (as := [.ref 19, .int (3)]) (rest := []) (u := some (.int v2)) (C' := (73, [some (.ref 19), some (.int p0), some (.int p1), some (.int p2), some (.long p3), none], [.int v2], s2)) rfl rfl (m_X5_failed (3) s1 hk) rfl rfl ?_
          refine RU.blk (C' := (77, [some (.ref 19), some (.int p0), some (.int p1), some (.int p2), some (.long p3), none], [.int v2], s2)) 1 rfl ?_
          obtain ⟨rfl, rfl⟩ := ret_inj h
          exact RU.ret rfl rfl rfl
      · refine RU.ff hc ?_
        refine RU.blk (C' := (49, [some (.ref 19), some (.int p0), some (.int p1), some (.int p2), some (.long p3), none], [.int (4), .ref 19], σ)) 2 rfl ?_
        obtain ⟨⟨v3, s3⟩, hk, h⟩ := Option.bind_eq_some_iff.mp h
        dsimp only at h
        refine RU.call (as := [.ref 19, .int (4)]) (rest := []) (u := some (.int v3)) (C' := (52, [some (.ref 19), some (.int p0), some (.int p1), some (.int p2), some (.long p3), none], [.int v3], s3)) rfl rfl (m_X5_failed (4) σ hk) rfl rfl ?_
        obtain ⟨rfl, rfl⟩ := ret_inj h
        exact RU.ret rfl rfl rfl
    · refine RU.ff hc ?_
      refine RU.blk (C' := (36, [some (.ref 19), some (.int p0), some (.int p1), some (.int p2), some (.long p3), none], [.int (1), .ref 19], σ)) 2 rfl ?_
      obtain ⟨⟨v4, s4⟩, hk, h⟩ := Option.bind_eq_some_iff.mp h
      dsimp only at h
      refine RU.call (as := [.ref 19, .int (1)]) (rest := []) (u := some (.int v4)) (C' := (39, [some (.ref 19), some (.int p0), some (.int p1), some (.int p2), some (.long p3), none], [.int v4], s4)) rfl rfl (m_X5_failed (1) σ hk) rfl rfl ?_
      obtain ⟨rfl, rfl⟩ := ret_inj h
      exact RU.ret rfl rfl rfl
  · refine RU.ff hc ?_
    refine RU.blk (C' := (14, [some (.ref 19), some (.int p0), some (.int p1), some (.int p2), some (.long p3), none], [.int p0, .ref 31], σ)) 3 rfl ?_
    obtain ⟨hv, h⟩ := cnd_n h
    refine RU.iald (N := 4) rfl rfl hv ?_
    refine RU.blk (C' := (bif cEq (gA σ 31 (Int32.toNatClampNeg p0)) p1 then 25 else 19, [some (.ref 19), some (.int p0), some (.int p1), some (.int p2), some (.long p3), none], [], σ)) 2 rfl ?_
    rcases cnd_some h with ⟨hc, h⟩ | ⟨hc, h⟩
    · refine RU.tt hc ?_
      refine RU.blk (C' := (30, [some (.ref 19), some (.int p0), some (.int p1), some (.int p2), some (.long p3), none], [.int p0, .ref 30], σ)) 3 rfl ?_
      obtain ⟨hv, h⟩ := cnd_n h
      refine RU.iald (N := 4) rfl rfl hv ?_
      refine RU.blk (C' := (bif cGe (gA σ 30 (Int32.toNatClampNeg p0)) 0 then 40 else 34, [some (.ref 19), some (.int p0), some (.int p1), some (.int p2), some (.long p3), none], [], σ)) 1 rfl ?_
      rcases cnd_some h with ⟨hc, h⟩ | ⟨hc, h⟩
      · refine RU.tt hc ?_
        refine RU.blk (C' := (bif cGe (lg_cmp p3 0) 0 then 53 else 47, [some (.ref 19), some (.int p0), some (.int p1), some (.int p2), some (.long p3), none], [], σ)) 4 rfl ?_
        rcases cnd_some h with ⟨hc, h⟩ | ⟨hc, h⟩
        · refine RU.tt hc ?_
          refine RU.blk (C' := (61, [some (.ref 19), some (.int p0), some (.int p1), some (.int p2), some (.long p3), none], [.int p0, .ref 30, .long p3, .int p2], σ)) 5 rfl ?_
          obtain ⟨hv, h⟩ := cnd_n h
          refine RU.iald (N := 4) rfl rfl hv ?_
          obtain ⟨⟨v5, s5⟩, hk, h⟩ := Option.bind_eq_some_iff.mp h
          dsimp only at h
          refine RU.call (as := [.int p2, .long p3, .int (gA σ 30 (Int32.toNatClampNeg p0))]) (rest := []) (u := some (.int v5)) (C' := (65, [some (.ref 19), some (.int p0), some (.int p1), some (.int p2), some (.long p3), none], [.int v5], s5)) rfl rfl (m_X5_isBeyond p2 p3 (gA σ 30 (Int32.toNatClampNeg p0)) σ hk) rfl rfl ?_
          refine RU.blk (C' := (bif cEq v5 0 then 76 else 68, [some (.ref 19), some (.int p0), some (.int p1), some (.int p2), some (.long p3), none], [], s5)) 1 rfl ?_
          rcases cnd_some h with ⟨hc, h⟩ | ⟨hc, h⟩
          · refine RU.tt hc ?_
            refine RU.blk (C' := (77, [some (.ref 19), some (.int p0), some (.int p1), some (.int p2), some (.long p3), none], [.int (0)], s5)) 1 rfl ?_
            obtain ⟨rfl, rfl⟩ := ret_inj h
            exact RU.ret rfl rfl rfl
          · refine RU.ff hc ?_
            refine RU.blk (C' := (70, [some (.ref 19), some (.int p0), some (.int p1), some (.int p2), some (.long p3), none], [.int (3), .ref 19], s5)) 2 rfl ?_
            obtain ⟨⟨v6, s6⟩, hk, h⟩ := Option.bind_eq_some_iff.mp h
            dsimp only at h
            refine RU.call (as := [.ref 19, .int (3)]) (rest := []) (u := some (.int v6)) (C' := (73, [some (.ref 19), some (.int p0), some (.int p1), some (.int p2), some (.long p3), none], [.int v6], s6)) rfl rfl (m_X5_failed (3) s5 hk) rfl rfl ?_
            refine RU.blk (C' := (77, [some (.ref 19), some (.int p0), some (.int p1), some (.int p2), some (.long p3), none], [.int v6], s6)) 1 rfl ?_
            obtain ⟨rfl, rfl⟩ := ret_inj h
            exact RU.ret rfl rfl rfl
        · refine RU.ff hc ?_
          refine RU.blk (C' := (49, [some (.ref 19), some (.int p0), some (.int p1), some (.int p2), some (.long p3), none], [.int (4), .ref 19], σ)) 2 rfl ?_
          obtain ⟨⟨v7, s7⟩, hk, h⟩ := Option.bind_eq_some_iff.mp h
          dsimp only at h
          refine RU.call (as := [.ref 19, .int (4)]) (rest := []) (u := some (.int v7)) (C' := (52, [some (.ref 19), some (.int p0), some (.int p1), some (.int p2), some (.long p3), none], [.int v7], s7)) rfl rfl (m_X5_failed (4) σ hk) rfl rfl ?_
          obtain ⟨rfl, rfl⟩ := ret_inj h
          exact RU.ret rfl rfl rfl
      · refine RU.ff hc ?_
        refine RU.blk (C' := (36, [some (.ref 19), some (.int p0), some (.int p1), some (.int p2), some (.long p3), none], [.int (1), .ref 19], σ)) 2 rfl ?_
        obtain ⟨⟨v8, s8⟩, hk, h⟩ := Option.bind_eq_some_iff.mp h
        dsimp only at h
        refine RU.call (as := [.ref 19, .int (1)]) (rest := []) (u := some (.int v8)) (C' := (39, [some (.ref 19), some (.int p0), some (.int p1), some (.int p2), some (.long p3), none], [.int v8], s8)) rfl rfl (m_X5_failed (1) σ hk) rfl rfl ?_
        obtain ⟨rfl, rfl⟩ := ret_inj h
        exact RU.ret rfl rfl rfl
    · refine RU.ff hc ?_
      refine RU.blk (C' := (21, [some (.ref 19), some (.int p0), some (.int p1), some (.int p2), some (.long p3), none], [.int (2), .ref 19], σ)) 2 rfl ?_
      obtain ⟨⟨v9, s9⟩, hk, h⟩ := Option.bind_eq_some_iff.mp h
      dsimp only at h
      refine RU.call (as := [.ref 19, .int (2)]) (rest := []) (u := some (.int v9)) (C' := (24, [some (.ref 19), some (.int p0), some (.int p1), some (.int p2), some (.long p3), none], [.int v9], s9)) rfl rfl (m_X5_failed (2) σ hk) rfl rfl ?_
      obtain ⟨rfl, rfl⟩ := ret_inj h
      exact RU.ret rfl rfl rfl
noncomputable def F_X5_placeOf (p0 : Int32) (σ : PS) : Option (Int32 × PS) :=
  some (((((gI σ 1217) * (gI σ 1221)) + (gI σ 1220)) + p0), σ)
set_option maxRecDepth 50000 in
theorem m_X5_placeOf (p0 : Int32) (σ : PS) {v : Int32} {σ' : PS} (h : F_X5_placeOf p0 σ = some (v, σ')) : PR 139 [.ref 19, .int p0] σ (some (.int v)) σ' := by
  refine PR.enter (L := [some (.ref 19), some (.int p0)]) uT_139 uD_139 rfl rfl ?_
  unfold F_X5_placeOf at h
  refine RU.blk (C' := (16, [some (.ref 19), some (.int p0)], [.int ((((gI σ 1217) * (gI σ 1221)) + (gI σ 1220)) + p0)], σ)) 10 rfl ?_
  obtain ⟨rfl, rfl⟩ := ret_inj h
  exact RU.ret rfl rfl rfl
noncomputable def L_X5_over  : Nat → Int64 → Int32 → PS → Option (Int64 × PS)
  | 0, _, _, _ => none
  | n + 1, y1, x3, σ => 
    bif cGe x3 (gI σ 1219) then (
      some (y1, σ)
    ) else (
      (F_X5_isIn (gI σ 1223) x3 σ).bind fun q1 =>
      let v1 := q1.1
      let s1 := q1.2
      bif cEq v1 0 then (
        (F_X5_placeOf x3 s1).bind fun q2 =>
        let v2 := q2.1
        let s2 := q2.2
        L_X5_over n  (y1 ||| (lshl 1 v2)) (x3 + (1)) s2
      ) else (
        L_X5_over n  (y1 ||| 0) (x3 + (1)) s1
      )
    )
set_option maxRecDepth 50000 in
theorem ml_X5_over  (n : Nat) : (∀ (y1 : Int64) (x3 : Int32) (σ : PS) (v : Int64) (σ' : PS), L_X5_over n y1 x3 σ = some (v, σ') → RU ubX5_over 1 21 (4, [some (.ref 19), some (.long y1), none, some (.int x3)], [], σ) (some (.long v)) σ') := by
  induction n with
  | zero =>
    intro y1 x3 σ v σ' h; exact absurd (show (none : Option (Int64 × PS)) = some (v, σ') from h) (by simp)
  | succ n ih =>
    intro y1 x3 σ v σ' h
    rw [L_X5_over] at h
    refine RU.blk (C' := (bif cGe x3 (gI σ 1219) then 43 else 12, [some (.ref 19), some (.long y1), none, some (.int x3)], [], σ)) 4 rfl ?_
    rcases cnd_some h with ⟨hc, h⟩ | ⟨hc, h⟩
    · refine RU.tt hc ?_
      refine RU.blk (C' := (44, [some (.ref 19), some (.long y1), none, some (.int x3)], [.long y1], σ)) 1 rfl ?_
      obtain ⟨rfl, rfl⟩ := ret_inj h
      exact RU.ret rfl rfl rfl
    · refine RU.ff hc ?_
      refine RU.blk (C' := (18, [some (.ref 19), some (.long y1), none, some (.int x3)], [.int x3, .int (gI σ 1223), .long y1], σ)) 4 rfl ?_
      obtain ⟨⟨v1, s1⟩, hk, h⟩ := Option.bind_eq_some_iff.mp h
      dsimp only at h
      refine RU.call (as := [.int (gI σ 1223), .int x3]) (rest := [.long y1]) (u := some (.int v1)) (C' := (21, [some (.ref 19), some (.long y1), none, some (.int x3)], [.int v1, .long y1], s1)) rfl rfl (m_X5_isIn (gI σ 1223) x3 σ hk) rfl rfl ?_
      refine RU.blk (C' := (bif cEq v1 0 then 28 else 24, [some (.ref 19), some (.long y1), none, some (.int x3)], [.long y1], s1)) 1 rfl ?_
      rcases cnd_some h with ⟨hc, h⟩ | ⟨hc, h⟩
      · refine RU.tt hc ?_
        refine RU.blk (C' := (31, [some (.ref 19), some (.long y1), none, some (.int x3)], [.int x3, .ref 19, .long 1, .long y1], s1)) 3 rfl ?_
        obtain ⟨⟨v2, s2⟩, hk, h⟩ := Option.bind_eq_some_iff.mp h
        dsimp only at h
        refine RU.call (as := [.ref 19, .int x3]) (rest := [.long 1, .long y1]) (u := some (.int v2)) (C' := (34, [some (.ref 19), some (.long y1), none, some (.int x3)], [.int v2, .long 1, .long y1], s2)) rfl rfl (m_X5_placeOf x3 s1 hk) rfl rfl ?_
        refine RU.blk (C' := (4, [some (.ref 19), some (.long (y1 ||| (lshl 1 v2))), none, some (.int (x3 + (1)))], [], s2)) 5 rfl ?_
        exact ih (y1 ||| (lshl 1 v2)) (x3 + (1)) _ _ _ h
      · refine RU.ff hc ?_
        refine RU.blk (C' := (4, [some (.ref 19), some (.long (y1 ||| 0)), none, some (.int (x3 + (1)))], [], s1)) 6 rfl ?_
        exact ih (y1 ||| 0) (x3 + (1)) _ _ _ h
noncomputable def F_X5_over  (σ : PS) : Option (Int64 × PS) :=
  L_X5_over fuelN  0 (0) σ
set_option maxRecDepth 50000 in
theorem m_X5_over  (σ : PS) {v : Int64} {σ' : PS} (h : F_X5_over σ = some (v, σ')) : PR 141 [.ref 19] σ (some (.long v)) σ' := by
  refine PR.enter (L := [some (.ref 19), none, none, none]) uT_141 uD_141 rfl rfl ?_
  unfold F_X5_over at h
  refine RU.blk (C' := (4, [some (.ref 19), some (.long 0), none, some (.int (0))], [], σ)) 4 rfl ?_
  exact (ml_X5_over fuelN) 0 (0) _ _ _ h
