noncomputable def L_X4_isToldAgain  : Nat → Int32 → Int32 → Int32 → PS → Option (Int32 × PS)
  | 0, _, _, _, _ => none
  | n + 1, x1, x2, x3, σ => 
    bif cGe x3 x2 then (
      some ((1), σ)
    ) else (
      (F_X4_numberAt 18 60 x3 σ).bind fun q1 =>
      let v1 := q1.1
      let s1 := q1.2
      (F_X4_numberAt 18 60 (x3 - x1) s1).bind fun q2 =>
      let v2 := q2.1
      let s2 := q2.2
      bif cEq v1 v2 then (
        L_X4_isToldAgain n  x1 x2 (x3 + (1)) s2
      ) else (
        some ((0), s2)
      )
    )
set_option maxRecDepth 50000 in
theorem ml_X4_isToldAgain  (n : Nat) : (∀ (x1 : Int32) (x2 : Int32) (x3 : Int32) (σ : PS) (v : Int32) (σ' : PS), L_X4_isToldAgain n x1 x2 x3 σ = some (v, σ') → RU ubX4_isToldAgain 1 21 (2, [some (.ref 0), some (.int x1), some (.int x2), some (.int x3)], [], σ) (some (.int v)) σ') := by
  induction n with
  | zero =>
    intro x1 x2 x3 σ v σ' h; exact absurd (show (none : Option (Int32 × PS)) = some (v, σ') from h) (by simp)
  | succ n ih =>
    intro x1 x2 x3 σ v σ' h
    rw [L_X4_isToldAgain] at h
    refine RU.blk (C' := (bif cGe x3 x2 then 36 else 7, [some (.ref 0), some (.int x1), some (.int x2), some (.int x3)], [], σ)) 3 rfl ?_
    rcases cnd_some h with ⟨hc, h⟩ | ⟨hc, h⟩
    · refine RU.tt hc ?_
      refine RU.blk (C' := (37, [some (.ref 0), some (.int x1), some (.int x2), some (.int x3)], [.int (1)], σ)) 1 rfl ?_
      obtain ⟨rfl, rfl⟩ := ret_inj h
      exact RU.ret rfl rfl rfl
    · refine RU.ff hc ?_
      refine RU.blk (C' := (12, [some (.ref 0), some (.int x1), some (.int x2), some (.int x3)], [.int x3, .ref 18], σ)) 3 rfl ?_
      obtain ⟨⟨v1, s1⟩, hk, h⟩ := Option.bind_eq_some_iff.mp h
      dsimp only at h
      refine RU.call (as := [.ref 18, .int x3]) (rest := []) (u := some (.int v1)) (C' := (15, [some (.ref 0), some (.int x1), some (.int x2), some (.int x3)], [.int v1], s1)) rfl rfl (m_X4_numberAt 18 60 rfl x3 σ hk) rfl rfl ?_
      refine RU.blk (C' := (22, [some (.ref 0), some (.int x1), some (.int x2), some (.int x3)], [.int (x3 - x1), .ref 18, .int v1], s1)) 5 rfl ?_
      obtain ⟨⟨v2, s2⟩, hk, h⟩ := Option.bind_eq_some_iff.mp h
      dsimp only at h
      refine RU.call (as := [.ref 18, .int (x3 - x1)]) (rest := [.int v1]) (u := some (.int v2)) (C' := (25, [some (.ref 0), some (.int x1), some (.int x2), some (.int x3)], [.int v2, .int v1], s2)) rfl rfl (m_X4_numberAt 18 60 rfl (x3 - x1) s1 hk) rfl rfl ?_
      refine RU.blk (C' := (bif cEq v1 v2 then 30 else 28, [some (.ref 0), some (.int x1), some (.int x2), some (.int x3)], [], s2)) 1 rfl ?_
      rcases cnd_some h with ⟨hc, h⟩ | ⟨hc, h⟩
      · refine RU.tt hc ?_
        refine RU.blk (C' := (2, [some (.ref 0), some (.int x1), some (.int x2), some (.int (x3 + (1)))], [], s2)) 2 rfl ?_
        exact ih x1 x2 (x3 + (1)) _ _ _ h
      · refine RU.ff hc ?_
        refine RU.blk (C' := (29, [some (.ref 0), some (.int x1), some (.int x2), some (.int x3)], [.int (0)], s2)) 1 rfl ?_
        obtain ⟨rfl, rfl⟩ := ret_inj h
        exact RU.ret rfl rfl rfl
noncomputable def F_X4_isToldAgain (p0 : Int32) (p1 : Int32) (σ : PS) : Option (Int32 × PS) :=
  L_X4_isToldAgain fuelN  p0 p1 p0 σ
set_option maxRecDepth 50000 in
theorem m_X4_isToldAgain (p0 : Int32) (p1 : Int32) (σ : PS) {v : Int32} {σ' : PS} (h : F_X4_isToldAgain p0 p1 σ = some (v, σ')) : PR 107 [.ref 0, .int p0, .int p1] σ (some (.int v)) σ' := by
  refine PR.enter (L := [some (.ref 0), some (.int p0), some (.int p1), none]) uT_107 uD_107 rfl rfl ?_
  unfold F_X4_isToldAgain at h
  refine RU.blk (C' := (2, [some (.ref 0), some (.int p0), some (.int p1), some (.int p0)], [], σ)) 2 rfl ?_
  exact (ml_X4_isToldAgain fuelN) p0 p1 p0 _ _ _ h
noncomputable def L_X4_leastLengthToldAgain  : Nat → Int32 → Int32 → PS → Option (Int32 × PS)
  | 0, _, _, _ => none
  | n + 1, x1, x2, σ => 
    bif cGe x2 x1 then (
      some (x1, σ)
    ) else (
      (F_X4_isToldAgain x2 x1 σ).bind fun q1 =>
      let v1 := q1.1
      let s1 := q1.2
      bif cEq v1 0 then (
        L_X4_leastLengthToldAgain n  x1 (x2 + (1)) s1
      ) else (
        some (x2, s1)
      )
    )
set_option maxRecDepth 50000 in
theorem ml_X4_leastLengthToldAgain  (n : Nat) : (∀ (x1 : Int32) (x2 : Int32) (σ : PS) (v : Int32) (σ' : PS), L_X4_leastLengthToldAgain n x1 x2 σ = some (v, σ') → RU ubX4_leastLengthToldAgain 2 44 (2, [some (.ref 0), some (.int x1), some (.int x2)], [], σ) (some (.int v)) σ') := by
  induction n with
  | zero =>
    intro x1 x2 σ v σ' h; exact absurd (show (none : Option (Int32 × PS)) = some (v, σ') from h) (by simp)
  | succ n ih =>
    intro x1 x2 σ v σ' h
    rw [L_X4_leastLengthToldAgain] at h
    refine RU.blk (C' := (bif cGe x2 x1 then 24 else 7, [some (.ref 0), some (.int x1), some (.int x2)], [], σ)) 3 rfl ?_
    rcases cnd_some h with ⟨hc, h⟩ | ⟨hc, h⟩
    · refine RU.tt hc ?_
      refine RU.blk (C' := (25, [some (.ref 0), some (.int x1), some (.int x2)], [.int x1], σ)) 1 rfl ?_
      obtain ⟨rfl, rfl⟩ := ret_inj h
      exact RU.ret rfl rfl rfl
    · refine RU.ff hc ?_
      refine RU.blk (C' := (10, [some (.ref 0), some (.int x1), some (.int x2)], [.int x1, .int x2, .ref 0], σ)) 3 rfl ?_
      obtain ⟨⟨v1, s1⟩, hk, h⟩ := Option.bind_eq_some_iff.mp h
      dsimp only at h
      refine RU.call (as := [.ref 0, .int x2, .int x1]) (rest := []) (u := some (.int v1)) (C' := (13, [some (.ref 0), some (.int x1), some (.int x2)], [.int v1], s1)) rfl rfl (m_X4_isToldAgain x2 x1 σ hk) rfl rfl ?_
      refine RU.blk (C' := (bif cEq v1 0 then 18 else 16, [some (.ref 0), some (.int x1), some (.int x2)], [], s1)) 1 rfl ?_
      rcases cnd_some h with ⟨hc, h⟩ | ⟨hc, h⟩
      · refine RU.tt hc ?_
        refine RU.blk (C' := (2, [some (.ref 0), some (.int x1), some (.int (x2 + (1)))], [], s1)) 2 rfl ?_
        exact ih x1 (x2 + (1)) _ _ _ h
      · refine RU.ff hc ?_
        refine RU.blk (C' := (17, [some (.ref 0), some (.int x1), some (.int x2)], [.int x2], s1)) 1 rfl ?_
        obtain ⟨rfl, rfl⟩ := ret_inj h
        exact RU.ret rfl rfl rfl
noncomputable def F_X4_leastLengthToldAgain (p0 : Int32) (σ : PS) : Option (Int32 × PS) :=
  L_X4_leastLengthToldAgain fuelN  p0 (1) σ
set_option maxRecDepth 50000 in
theorem m_X4_leastLengthToldAgain (p0 : Int32) (σ : PS) {v : Int32} {σ' : PS} (h : F_X4_leastLengthToldAgain p0 σ = some (v, σ')) : PR 106 [.ref 0, .int p0] σ (some (.int v)) σ' := by
  refine PR.enter (L := [some (.ref 0), some (.int p0), none]) uT_106 uD_106 rfl rfl ?_
  unfold F_X4_leastLengthToldAgain at h
  refine RU.blk (C' := (2, [some (.ref 0), some (.int p0), some (.int (1))], [], σ)) 2 rfl ?_
  exact (ml_X4_leastLengthToldAgain fuelN) p0 (1) _ _ _ h
noncomputable def F_X4_run (p0 : Int32) (p1 : Int32) (p2 : Int32) (p3 : Int32) (p4 : Int32) (σ : PS) : Option (Int32 × PS) :=
  (F_X4_sheetOf p0 (sI σ 5 (0))).bind fun q1 =>
  let s1 := q1.2
  match q1.1 with
  | none => (
    some ((-1), s1)
  )
  | some r51 => bif isSh r51 then (
    (F_X4_isLane p1 s1).bind fun q2 =>
    let v2 := q2.1
    let s2 := q2.2
    bif cEq v2 0 then (
      some ((-2), s2)
    ) else (
      (F_X4_within p3 (1) (40) s2).bind fun q3 =>
      let v3 := q3.1
      let s3 := q3.2
      bif cEq v3 0 then (
        some ((-2), s3)
      ) else (
        (F_X4_within p4 (0) (1) s3).bind fun q4 =>
        let v4 := q4.1
        let s4 := q4.2
        bif cNe v4 0 then (
          (F_X4_take r51 p1 p2 p3 s4).bind fun q5 =>
          let v5 := q5.1
          let s5 := q5.2
          bif cEq v5 0 then (
            (F_X4_leastLengthToldAgain p3 s5).bind fun q6 =>
            let v6 := q6.1
            let s6 := q6.2
            bif cNe p4 0 then (
              (F_X4_numberAt 18 60 (p3 - v6) s6).bind fun q7 =>
              let v7 := q7.1
              let s7 := q7.2
              some (v7, s7)
            ) else (
              some (v6, s6)
            )
          ) else (
            (F_X4_faulted v5 s5).bind fun q8 =>
            let v8 := q8.1
            let s8 := q8.2
            some (v8, s8)
          )
        ) else (
          some ((-2), s4)
        )
      )
    )
  ) else none
set_option maxRecDepth 50000 in
theorem m_X4_run (p0 : Int32) (p1 : Int32) (p2 : Int32) (p3 : Int32) (p4 : Int32) (σ : PS) {v : Int32} {σ' : PS} (h : F_X4_run p0 p1 p2 p3 p4 σ = some (v, σ')) : PR 85 [.ref 0, .int p0, .int p1, .int p2, .int p3, .int p4] σ (some (.int v)) σ' := by
  refine PR.enter (L := [some (.ref 0), some (.int p0), some (.int p1), some (.int p2), some (.int p3), some (.int p4), none, none, none]) uT_85 uD_85 rfl rfl ?_
  unfold F_X4_run at h
  refine RU.blk (C' := (7, [some (.ref 0), some (.int p0), some (.int p1), some (.int p2), some (.int p3), some (.int p4), none, none, none], [.int p0, .ref 0], (sI σ 5 (0)))) 5 rfl ?_
  obtain ⟨⟨v1, s1⟩, hk, h⟩ := Option.bind_eq_some_iff.mp h
  dsimp only at h
  cases v1 with
  | none =>
    dsimp only at h
    refine RU.call (as := [.ref 0, .int p0]) (rest := []) (u := some .null) (C' := (10, [some (.ref 0), some (.int p0), some (.int p1), some (.int p2), some (.int p3), some (.int p4), none, none, none], [.null], s1)) rfl rfl (m_X4_sheetOf p0 (sI σ 5 (0)) hk) rfl rfl ?_
    refine RU.blk (C' := (18, [some (.ref 0), some (.int p0), some (.int p1), some (.int p2), some (.int p3), some (.int p4), some (.null), none, none], [.int (-1)], s1)) 4 rfl ?_
    obtain ⟨rfl, rfl⟩ := ret_inj h
    exact RU.ret rfl rfl rfl
  | some r51 =>
    dsimp only at h
    obtain ⟨hr51, h⟩ := cnd_n h
    refine RU.call (as := [.ref 0, .int p0]) (rest := []) (u := some (.ref r51)) (C' := (10, [some (.ref 0), some (.int p0), some (.int p1), some (.int p2), some (.int p3), some (.int p4), none, none, none], [.ref r51], s1)) rfl rfl (m_X4_sheetOf p0 (sI σ 5 (0)) hk) rfl rfl ?_
    refine RU.blk (C' := (20, [some (.ref 0), some (.int p0), some (.int p1), some (.int p2), some (.int p3), some (.int p4), some (.ref r51), none, none], [.int p1], s1)) 4 rfl ?_
    obtain ⟨⟨v2, s2⟩, hk, h⟩ := Option.bind_eq_some_iff.mp h
    dsimp only at h
    refine RU.call (as := [.int p1]) (rest := []) (u := some (.int v2)) (C' := (23, [some (.ref 0), some (.int p0), some (.int p1), some (.int p2), some (.int p3), some (.int p4), some (.ref r51), none, none], [.int v2], s2)) rfl rfl (m_X4_isLane p1 s1 hk) rfl rfl ?_
    refine RU.blk (C' := (bif cEq v2 0 then 47 else 26, [some (.ref 0), some (.int p0), some (.int p1), some (.int p2), some (.int p3), some (.int p4), some (.ref r51), none, none], [], s2)) 1 rfl ?_
    rcases cnd_some h with ⟨hc, h⟩ | ⟨hc, h⟩
    · refine RU.tt hc ?_
      refine RU.blk (C' := (49, [some (.ref 0), some (.int p0), some (.int p1), some (.int p2), some (.int p3), some (.int p4), some (.ref r51), none, none], [.int (-2)], s2)) 1 rfl ?_
      obtain ⟨rfl, rfl⟩ := ret_inj h
      exact RU.ret rfl rfl rfl
    · refine RU.ff hc ?_
      refine RU.blk (C' := (31, [some (.ref 0), some (.int p0), some (.int p1), some (.int p2), some (.int p3), some (.int p4), some (.ref r51), none, none], [.int (40), .int (1), .int p3], s2)) 3 rfl ?_
      obtain ⟨⟨v3, s3⟩, hk, h⟩ := Option.bind_eq_some_iff.mp h
      dsimp only at h
      refine RU.call (as := [.int p3, .int (1), .int (40)]) (rest := []) (u := some (.int v3)) (C' := (34, [some (.ref 0), some (.int p0), some (.int p1), some (.int p2), some (.int p3), some (.int p4), some (.ref r51), none, none], [.int v3], s3)) rfl rfl (m_X4_within p3 (1) (40) s2 hk) rfl rfl ?_
      refine RU.blk (C' := (bif cEq v3 0 then 47 else 37, [some (.ref 0), some (.int p0), some (.int p1), some (.int p2), some (.int p3), some (.int p4), some (.ref r51), none, none], [], s3)) 1 rfl ?_
      rcases cnd_some h with ⟨hc, h⟩ | ⟨hc, h⟩
      · refine RU.tt hc ?_
        refine RU.blk (C' := (49, [some (.ref 0), some (.int p0), some (.int p1), some (.int p2), some (.int p3), some (.int p4), some (.ref r51), none, none], [.int (-2)], s3)) 1 rfl ?_
        obtain ⟨rfl, rfl⟩ := ret_inj h
        exact RU.ret rfl rfl rfl
      · refine RU.ff hc ?_
        refine RU.blk (C' := (41, [some (.ref 0), some (.int p0), some (.int p1), some (.int p2), some (.int p3), some (.int p4), some (.ref r51), none, none], [.int (1), .int (0), .int p4], s3)) 3 rfl ?_
        obtain ⟨⟨v4, s4⟩, hk, h⟩ := Option.bind_eq_some_iff.mp h
        dsimp only at h
        refine RU.call (as := [.int p4, .int (0), .int (1)]) (rest := []) (u := some (.int v4)) (C' := (44, [some (.ref 0), some (.int p0), some (.int p1), some (.int p2), some (.int p3), some (.int p4), some (.ref r51), none, none], [.int v4], s4)) rfl rfl (m_X4_within p4 (0) (1) s3 hk) rfl rfl ?_
        refine RU.blk (C' := (bif cNe v4 0 then 50 else 47, [some (.ref 0), some (.int p0), some (.int p1), some (.int p2), some (.int p3), some (.int p4), some (.ref r51), none, none], [], s4)) 1 rfl ?_
        rcases cnd_some h with ⟨hc, h⟩ | ⟨hc, h⟩
        · refine RU.tt hc ?_
          refine RU.blk (C' := (57, [some (.ref 0), some (.int p0), some (.int p1), some (.int p2), some (.int p3), some (.int p4), some (.ref r51), none, none], [.int p3, .int p2, .int p1, .ref r51, .ref 0], s4)) 5 rfl ?_
          obtain ⟨⟨v5, s5⟩, hk, h⟩ := Option.bind_eq_some_iff.mp h
          dsimp only at h
          refine RU.call (as := [.ref 0, .ref r51, .int p1, .int p2, .int p3]) (rest := []) (u := some (.int v5)) (C' := (60, [some (.ref 0), some (.int p0), some (.int p1), some (.int p2), some (.int p3), some (.int p4), some (.ref r51), none, none], [.int v5], s5)) rfl rfl (m_X4_take r51 hr51 p1 p2 p3 s4 hk) rfl rfl ?_
          refine RU.blk (C' := (bif cEq v5 0 then 74 else 67, [some (.ref 0), some (.int p0), some (.int p1), some (.int p2), some (.int p3), some (.int p4), some (.ref r51), some (.int v5), none], [], s5)) 3 rfl ?_
          rcases cnd_some h with ⟨hc, h⟩ | ⟨hc, h⟩
          · refine RU.tt hc ?_
            refine RU.blk (C' := (77, [some (.ref 0), some (.int p0), some (.int p1), some (.int p2), some (.int p3), some (.int p4), some (.ref r51), some (.int v5), none], [.int p3, .ref 0], s5)) 2 rfl ?_
            obtain ⟨⟨v6, s6⟩, hk, h⟩ := Option.bind_eq_some_iff.mp h
            dsimp only at h
            refine RU.call (as := [.ref 0, .int p3]) (rest := []) (u := some (.int v6)) (C' := (80, [some (.ref 0), some (.int p0), some (.int p1), some (.int p2), some (.int p3), some (.int p4), some (.ref r51), some (.int v5), none], [.int v6], s6)) rfl rfl (m_X4_leastLengthToldAgain p3 s5 hk) rfl rfl ?_
            refine RU.blk (C' := (bif cNe p4 0 then 92 else 87, [some (.ref 0), some (.int p0), some (.int p1), some (.int p2), some (.int p3), some (.int p4), some (.ref r51), some (.int v5), some (.int v6)], [], s6)) 3 rfl ?_
            rcases cnd_some h with ⟨hc, h⟩ | ⟨hc, h⟩
            · refine RU.tt hc ?_
              refine RU.blk (C' := (101, [some (.ref 0), some (.int p0), some (.int p1), some (.int p2), some (.int p3), some (.int p4), some (.ref r51), some (.int v5), some (.int v6)], [.int (p3 - v6), .ref 18], s6)) 5 rfl ?_
              obtain ⟨⟨v7, s7⟩, hk, h⟩ := Option.bind_eq_some_iff.mp h
              dsimp only at h
              refine RU.call (as := [.ref 18, .int (p3 - v6)]) (rest := []) (u := some (.int v7)) (C' := (104, [some (.ref 0), some (.int p0), some (.int p1), some (.int p2), some (.int p3), some (.int p4), some (.ref r51), some (.int v5), some (.int v6)], [.int v7], s7)) rfl rfl (m_X4_numberAt 18 60 rfl (p3 - v6) s6 hk) rfl rfl ?_
              obtain ⟨rfl, rfl⟩ := ret_inj h
              exact RU.ret rfl rfl rfl
            · refine RU.ff hc ?_
              refine RU.blk (C' := (104, [some (.ref 0), some (.int p0), some (.int p1), some (.int p2), some (.int p3), some (.int p4), some (.ref r51), some (.int v5), some (.int v6)], [.int v6], s6)) 2 rfl ?_
              obtain ⟨rfl, rfl⟩ := ret_inj h
              exact RU.ret rfl rfl rfl
          · refine RU.ff hc ?_
            refine RU.blk (C' := (70, [some (.ref 0), some (.int p0), some (.int p1), some (.int p2), some (.int p3), some (.int p4), some (.ref r51), some (.int v5), none], [.int v5, .ref 0], s5)) 2 rfl ?_
            obtain ⟨⟨v8, s8⟩, hk, h⟩ := Option.bind_eq_some_iff.mp h
            dsimp only at h
            refine RU.call (as := [.ref 0, .int v5]) (rest := []) (u := some (.int v8)) (C' := (73, [some (.ref 0), some (.int p0), some (.int p1), some (.int p2), some (.int p3), some (.int p4), some (.ref r51), some (.int v5), none], [.int v8], s8)) rfl rfl (m_X4_faulted v5 s5 hk) rfl rfl ?_
            obtain ⟨rfl, rfl⟩ := ret_inj h
            exact RU.ret rfl rfl rfl
        · refine RU.ff hc ?_
          refine RU.blk (C' := (49, [some (.ref 0), some (.int p0), some (.int p1), some (.int p2), some (.int p3), some (.int p4), some (.ref r51), none, none], [.int (-2)], s4)) 1 rfl ?_
          obtain ⟨rfl, rfl⟩ := ret_inj h
          exact RU.ret rfl rfl rfl
noncomputable def F_X4_reading (p0 : Int32) (p1 : Int32) (p2 : Int32) (σ : PS) : Option (Int32 × PS) :=
  (F_X1_isLooker p0 σ).bind fun q1 =>
  let v1 := q1.1
  let s1 := q1.2
  bif cNe v1 0 then (
    (F_X4_isDigit p1 s1).bind fun q2 =>
    let v2 := q2.1
    let s2 := q2.2
    bif cEq v2 0 then (
      some ((-2), s2)
    ) else (
      (F_X4_within p2 (0) (20) s2).bind fun q3 =>
      let v3 := q3.1
      let s3 := q3.2
      bif cNe v3 0 then (
        (F_X0_areFull s3).bind fun q4 =>
        let v4 := q4.1
        let s4 := q4.2
        bif cEq v4 0 then (
          (F_X0_add p0 p1 p2 s4).bind fun q5 =>
          let v5 := q5.1
          let s5 := q5.2
          some (v5, s5)
        ) else (
          some ((-4), s4)
        )
      ) else (
        some ((-2), s3)
      )
    )
  ) else (
    some ((-1), s1)
  )
set_option maxRecDepth 50000 in
theorem m_X4_reading (p0 : Int32) (p1 : Int32) (p2 : Int32) (σ : PS) {v : Int32} {σ' : PS} (h : F_X4_reading p0 p1 p2 σ = some (v, σ')) : PR 86 [.ref 0, .int p0, .int p1, .int p2] σ (some (.int v)) σ' := by
  refine PR.enter (L := [some (.ref 0), some (.int p0), some (.int p1), some (.int p2)]) uT_86 uD_86 rfl rfl ?_
  unfold F_X4_reading at h
  refine RU.blk (C' := (5, [some (.ref 0), some (.int p0), some (.int p1), some (.int p2)], [.int p0, .ref 10], σ)) 3 rfl ?_
  obtain ⟨⟨v1, s1⟩, hk, h⟩ := Option.bind_eq_some_iff.mp h
  dsimp only at h
  refine RU.call (as := [.ref 10, .int p0]) (rest := []) (u := some (.int v1)) (C' := (8, [some (.ref 0), some (.int p0), some (.int p1), some (.int p2)], [.int v1], s1)) rfl rfl (m_X1_isLooker p0 σ hk) rfl rfl ?_
  refine RU.blk (C' := (bif cNe v1 0 then 13 else 11, [some (.ref 0), some (.int p0), some (.int p1), some (.int p2)], [], s1)) 1 rfl ?_
  rcases cnd_some h with ⟨hc, h⟩ | ⟨hc, h⟩
  · refine RU.tt hc ?_
    refine RU.blk (C' := (14, [some (.ref 0), some (.int p0), some (.int p1), some (.int p2)], [.int p1], s1)) 1 rfl ?_
    obtain ⟨⟨v2, s2⟩, hk, h⟩ := Option.bind_eq_some_iff.mp h
    dsimp only at h
    refine RU.call (as := [.int p1]) (rest := []) (u := some (.int v2)) (C' := (17, [some (.ref 0), some (.int p0), some (.int p1), some (.int p2)], [.int v2], s2)) rfl rfl (m_X4_isDigit p1 s1 hk) rfl rfl ?_
    refine RU.blk (C' := (bif cEq v2 0 then 30 else 20, [some (.ref 0), some (.int p0), some (.int p1), some (.int p2)], [], s2)) 1 rfl ?_
    rcases cnd_some h with ⟨hc, h⟩ | ⟨hc, h⟩
    · refine RU.tt hc ?_
      refine RU.blk (C' := (32, [some (.ref 0), some (.int p0), some (.int p1), some (.int p2)], [.int (-2)], s2)) 1 rfl ?_
      obtain ⟨rfl, rfl⟩ := ret_inj h
      exact RU.ret rfl rfl rfl
    · refine RU.ff hc ?_
      refine RU.blk (C' := (24, [some (.ref 0), some (.int p0), some (.int p1), some (.int p2)], [.int (20), .int (0), .int p2], s2)) 3 rfl ?_
      obtain ⟨⟨v3, s3⟩, hk, h⟩ := Option.bind_eq_some_iff.mp h
      dsimp only at h
      refine RU.call (as := [.int p2, .int (0), .int (20)]) (rest := []) (u := some (.int v3)) (C' := (27, [some (.ref 0), some (.int p0), some (.int p1), some (.int p2)], [.int v3], s3)) rfl rfl (m_X4_within p2 (0) (20) s2 hk) rfl rfl ?_
      refine RU.blk (C' := (bif cNe v3 0 then 33 else 30, [some (.ref 0), some (.int p0), some (.int p1), some (.int p2)], [], s3)) 1 rfl ?_
      rcases cnd_some h with ⟨hc, h⟩ | ⟨hc, h⟩
      · refine RU.tt hc ?_
        refine RU.blk (C' := (37, [some (.ref 0), some (.int p0), some (.int p1), some (.int p2)], [.ref 14], s3)) 2 rfl ?_
        obtain ⟨⟨v4, s4⟩, hk, h⟩ := Option.bind_eq_some_iff.mp h
        dsimp only at h
        refine RU.call (as := [.ref 14]) (rest := []) (u := some (.int v4)) (C' := (40, [some (.ref 0), some (.int p0), some (.int p1), some (.int p2)], [.int v4], s4)) rfl rfl (m_X0_areFull s3 hk) rfl rfl ?_
        refine RU.blk (C' := (bif cEq v4 0 then 46 else 43, [some (.ref 0), some (.int p0), some (.int p1), some (.int p2)], [], s4)) 1 rfl ?_
        rcases cnd_some h with ⟨hc, h⟩ | ⟨hc, h⟩
        · refine RU.tt hc ?_
          refine RU.blk (C' := (53, [some (.ref 0), some (.int p0), some (.int p1), some (.int p2)], [.int p2, .int p1, .int p0, .ref 14], s4)) 5 rfl ?_
          obtain ⟨⟨v5, s5⟩, hk, h⟩ := Option.bind_eq_some_iff.mp h
          dsimp only at h
          refine RU.call (as := [.ref 14, .int p0, .int p1, .int p2]) (rest := []) (u := some (.int v5)) (C' := (56, [some (.ref 0), some (.int p0), some (.int p1), some (.int p2)], [.int v5], s5)) rfl rfl (m_X0_add p0 p1 p2 s4 hk) rfl rfl ?_
          obtain ⟨rfl, rfl⟩ := ret_inj h
          exact RU.ret rfl rfl rfl
        · refine RU.ff hc ?_
          refine RU.blk (C' := (45, [some (.ref 0), some (.int p0), some (.int p1), some (.int p2)], [.int (-4)], s4)) 1 rfl ?_
          obtain ⟨rfl, rfl⟩ := ret_inj h
          exact RU.ret rfl rfl rfl
      · refine RU.ff hc ?_
        refine RU.blk (C' := (32, [some (.ref 0), some (.int p0), some (.int p1), some (.int p2)], [.int (-2)], s3)) 1 rfl ?_
        obtain ⟨rfl, rfl⟩ := ret_inj h
        exact RU.ret rfl rfl rfl
  · refine RU.ff hc ?_
    refine RU.blk (C' := (12, [some (.ref 0), some (.int p0), some (.int p1), some (.int p2)], [.int (-1)], s1)) 1 rfl ?_
    obtain ⟨rfl, rfl⟩ := ret_inj h
    exact RU.ret rfl rfl rfl
noncomputable def F_X4_back (p0 : Int32) (σ : PS) : Option (Int32 × PS) :=
  (F_X0_count σ).bind fun q1 =>
  let v1 := q1.1
  let s1 := q1.2
  (F_X4_within p0 (0) v1 s1).bind fun q2 =>
  let v2 := q2.1
  let s2 := q2.2
  bif cNe v2 0 then (
    (F_X0_count s2).bind fun q3 =>
    let v3 := q3.1
    let s3 := q3.2
    (F_X0_keep (v3 - p0) s3).bind fun q4 =>
    let s4 := q4.2
    (F_X0_count s4).bind fun q5 =>
    let v5 := q5.1
    let s5 := q5.2
    some (v5, s5)
  ) else (
    some ((-2), s2)
  )
set_option maxRecDepth 50000 in
theorem m_X4_back (p0 : Int32) (σ : PS) {v : Int32} {σ' : PS} (h : F_X4_back p0 σ = some (v, σ')) : PR 87 [.ref 0, .int p0] σ (some (.int v)) σ' := by
  refine PR.enter (L := [some (.ref 0), some (.int p0)]) uT_87 uD_87 rfl rfl ?_
  unfold F_X4_back at h
  refine RU.blk (C' := (6, [some (.ref 0), some (.int p0)], [.ref 14, .int (0), .int p0], σ)) 4 rfl ?_
  obtain ⟨⟨v1, s1⟩, hk, h⟩ := Option.bind_eq_some_iff.mp h
  dsimp only at h
  refine RU.call (as := [.ref 14]) (rest := [.int (0), .int p0]) (u := some (.int v1)) (C' := (9, [some (.ref 0), some (.int p0)], [.int v1, .int (0), .int p0], s1)) rfl rfl (m_X0_count σ hk) rfl rfl ?_
  obtain ⟨⟨v2, s2⟩, hk, h⟩ := Option.bind_eq_some_iff.mp h
  dsimp only at h
  refine RU.call (as := [.int p0, .int (0), .int v1]) (rest := []) (u := some (.int v2)) (C' := (12, [some (.ref 0), some (.int p0)], [.int v2], s2)) rfl rfl (m_X4_within p0 (0) v1 s1 hk) rfl rfl ?_
  refine RU.blk (C' := (bif cNe v2 0 then 18 else 15, [some (.ref 0), some (.int p0)], [], s2)) 1 rfl ?_
  rcases cnd_some h with ⟨hc, h⟩ | ⟨hc, h⟩
  · refine RU.tt hc ?_
    refine RU.blk (C' := (26, [some (.ref 0), some (.int p0)], [.ref 14, .ref 14], s2)) 4 rfl ?_
    obtain ⟨⟨v3, s3⟩, hk, h⟩ := Option.bind_eq_some_iff.mp h
    dsimp only at h
    refine RU.call (as := [.ref 14]) (rest := [.ref 14]) (u := some (.int v3)) (C' := (29, [some (.ref 0), some (.int p0)], [.int v3, .ref 14], s3)) rfl rfl (m_X0_count s2 hk) rfl rfl ?_
    refine RU.blk (C' := (31, [some (.ref 0), some (.int p0)], [.int (v3 - p0), .ref 14], s3)) 2 rfl ?_
    obtain ⟨⟨v4, s4⟩, hk, h⟩ := Option.bind_eq_some_iff.mp h
    dsimp only at h
    refine RU.call (as := [.ref 14, .int (v3 - p0)]) (rest := []) (u := none) (C' := (34, [some (.ref 0), some (.int p0)], [], s4)) rfl rfl (m_X0_keep (v3 - p0) s3 hk) rfl rfl ?_
    refine RU.blk (C' := (38, [some (.ref 0), some (.int p0)], [.ref 14], s4)) 2 rfl ?_
    obtain ⟨⟨v5, s5⟩, hk, h⟩ := Option.bind_eq_some_iff.mp h
    dsimp only at h
    refine RU.call (as := [.ref 14]) (rest := []) (u := some (.int v5)) (C' := (41, [some (.ref 0), some (.int p0)], [.int v5], s5)) rfl rfl (m_X0_count s4 hk) rfl rfl ?_
    obtain ⟨rfl, rfl⟩ := ret_inj h
    exact RU.ret rfl rfl rfl
  · refine RU.ff hc ?_
    refine RU.blk (C' := (17, [some (.ref 0), some (.int p0)], [.int (-2)], s2)) 1 rfl ?_
    obtain ⟨rfl, rfl⟩ := ret_inj h
    exact RU.ret rfl rfl rfl
noncomputable def L_X4_shorts  : Nat → Int32 → Int32 → Int32 → PS → Option (Int32 × PS)
  | 0, _, _, _, _ => none
  | n + 1, x1, x2, x3, σ => 
    bif cGt x3 (9) then (
      some (x2, σ)
    ) else (
      (F_X1_kindOf x1 σ).bind fun q1 =>
      let v1 := q1.1
      let s1 := q1.2
      (F_X0_areSo x1 v1 x3 s1).bind fun q2 =>
      let v2 := q2.1
      let s2 := q2.2
      bif cEq v2 0 then (
        L_X4_shorts n  x1 x2 (x3 + (1)) s2
      ) else (
        L_X4_shorts n  x1 (x2 ||| (shl (1) x3)) (x3 + (1)) s2
      )
    )
set_option maxRecDepth 50000 in
theorem ml_X4_shorts  (n : Nat) : (∀ (x1 : Int32) (x2 : Int32) (x3 : Int32) (σ : PS) (v : Int32) (σ' : PS), L_X4_shorts n x1 x2 x3 σ = some (v, σ') → RU ubX4_shorts 3 72 (17, [some (.ref 0), some (.int x1), some (.int x2), some (.int x3)], [], σ) (some (.int v)) σ') := by
  induction n with
  | zero =>
    intro x1 x2 x3 σ v σ' h; exact absurd (show (none : Option (Int32 × PS)) = some (v, σ') from h) (by simp)
  | succ n ih =>
    intro x1 x2 x3 σ v σ' h
    rw [L_X4_shorts] at h
    refine RU.blk (C' := (bif cGt x3 (9) then 59 else 23, [some (.ref 0), some (.int x1), some (.int x2), some (.int x3)], [], σ)) 3 rfl ?_
    rcases cnd_some h with ⟨hc, h⟩ | ⟨hc, h⟩
    · refine RU.tt hc ?_
      refine RU.blk (C' := (60, [some (.ref 0), some (.int x1), some (.int x2), some (.int x3)], [.int x2], σ)) 1 rfl ?_
      obtain ⟨rfl, rfl⟩ := ret_inj h
      exact RU.ret rfl rfl rfl
    · refine RU.ff hc ?_
      refine RU.blk (C' := (37, [some (.ref 0), some (.int x1), some (.int x2), some (.int x3)], [.int x1, .ref 10, .int x1, .ref 10, .ref 14], σ)) 8 rfl ?_
      obtain ⟨⟨v1, s1⟩, hk, h⟩ := Option.bind_eq_some_iff.mp h
      dsimp only at h
      refine RU.call (as := [.ref 10, .int x1]) (rest := [.int x1, .ref 10, .ref 14]) (u := some (.int v1)) (C' := (40, [some (.ref 0), some (.int x1), some (.int x2), some (.int x3)], [.int v1, .int x1, .ref 10, .ref 14], s1)) rfl rfl (m_X1_kindOf x1 σ hk) rfl rfl ?_
      refine RU.blk (C' := (41, [some (.ref 0), some (.int x1), some (.int x2), some (.int x3)], [.int x3, .int v1, .int x1, .ref 10, .ref 14], s1)) 1 rfl ?_
      obtain ⟨⟨v2, s2⟩, hk, h⟩ := Option.bind_eq_some_iff.mp h
      dsimp only at h
      refine RU.call (as := [.ref 14, .ref 10, .int x1, .int v1, .int x3]) (rest := []) (u := some (.int v2)) (C' := (44, [some (.ref 0), some (.int x1), some (.int x2), some (.int x3)], [.int v2], s2)) rfl rfl (m_X0_areSo x1 v1 x3 s1 hk) rfl rfl ?_
      refine RU.blk (C' := (bif cEq v2 0 then 53 else 47, [some (.ref 0), some (.int x1), some (.int x2), some (.int x3)], [], s2)) 1 rfl ?_
      rcases cnd_some h with ⟨hc, h⟩ | ⟨hc, h⟩
      · refine RU.tt hc ?_
        refine RU.blk (C' := (17, [some (.ref 0), some (.int x1), some (.int x2), some (.int (x3 + (1)))], [], s2)) 2 rfl ?_
        exact ih x1 x2 (x3 + (1)) _ _ _ h
      · refine RU.ff hc ?_
        refine RU.blk (C' := (17, [some (.ref 0), some (.int x1), some (.int (x2 ||| (shl (1) x3))), some (.int (x3 + (1)))], [], s2)) 8 rfl ?_
        exact ih x1 (x2 ||| (shl (1) x3)) (x3 + (1)) _ _ _ h
noncomputable def F_X4_shorts (p0 : Int32) (σ : PS) : Option (Int32 × PS) :=
  (F_X1_isLooker p0 σ).bind fun q3 =>
  let v3 := q3.1
  let s3 := q3.2
  bif cNe v3 0 then (
    L_X4_shorts fuelN  p0 (0) (0) s3
  ) else (
    some ((-1), s3)
  )
set_option maxRecDepth 50000 in
theorem m_X4_shorts (p0 : Int32) (σ : PS) {v : Int32} {σ' : PS} (h : F_X4_shorts p0 σ = some (v, σ')) : PR 88 [.ref 0, .int p0] σ (some (.int v)) σ' := by
  refine PR.enter (L := [some (.ref 0), some (.int p0), none, none]) uT_88 uD_88 rfl rfl ?_
  unfold F_X4_shorts at h
  refine RU.blk (C' := (5, [some (.ref 0), some (.int p0), none, none], [.int p0, .ref 10], σ)) 3 rfl ?_
  obtain ⟨⟨v3, s3⟩, hk, h⟩ := Option.bind_eq_some_iff.mp h
  dsimp only at h
  refine RU.call (as := [.ref 10, .int p0]) (rest := []) (u := some (.int v3)) (C' := (8, [some (.ref 0), some (.int p0), none, none], [.int v3], s3)) rfl rfl (m_X1_isLooker p0 σ hk) rfl rfl ?_
  refine RU.blk (C' := (bif cNe v3 0 then 13 else 11, [some (.ref 0), some (.int p0), none, none], [], s3)) 1 rfl ?_
  rcases cnd_some h with ⟨hc, h⟩ | ⟨hc, h⟩
  · refine RU.tt hc ?_
    refine RU.blk (C' := (17, [some (.ref 0), some (.int p0), some (.int (0)), some (.int (0))], [], s3)) 4 rfl ?_
    exact (ml_X4_shorts fuelN) p0 (0) (0) _ _ _ h
  · refine RU.ff hc ?_
    refine RU.blk (C' := (12, [some (.ref 0), some (.int p0), none, none], [.int (-1)], s3)) 1 rfl ?_
    obtain ⟨rfl, rfl⟩ := ret_inj h
    exact RU.ret rfl rfl rfl
noncomputable def L_X4_kinds  : Nat → Int32 → Int32 → Int32 → PS → Option (Int32 × PS)
  | 0, _, _, _, _ => none
  | n + 1, x1, x2, x3, σ => 
    bif cGt x3 (2) then (
      some (x2, σ)
    ) else (
      (F_X1_shortOf x1 σ).bind fun q1 =>
      let v1 := q1.1
      let s1 := q1.2
      (F_X0_areSo x1 x3 v1 s1).bind fun q2 =>
      let v2 := q2.1
      let s2 := q2.2
      bif cEq v2 0 then (
        L_X4_kinds n  x1 x2 (x3 + (1)) s2
      ) else (
        L_X4_kinds n  x1 (x2 ||| (shl (1) x3)) (x3 + (1)) s2
      )
    )
set_option maxRecDepth 50000 in
theorem ml_X4_kinds  (n : Nat) : (∀ (x1 : Int32) (x2 : Int32) (x3 : Int32) (σ : PS) (v : Int32) (σ' : PS), L_X4_kinds n x1 x2 x3 σ = some (v, σ') → RU ubX4_kinds 3 72 (17, [some (.ref 0), some (.int x1), some (.int x2), some (.int x3)], [], σ) (some (.int v)) σ') := by
  induction n with
  | zero =>
    intro x1 x2 x3 σ v σ' h; exact absurd (show (none : Option (Int32 × PS)) = some (v, σ') from h) (by simp)
  | succ n ih =>
    intro x1 x2 x3 σ v σ' h
    rw [L_X4_kinds] at h
    refine RU.blk (C' := (bif cGt x3 (2) then 58 else 22, [some (.ref 0), some (.int x1), some (.int x2), some (.int x3)], [], σ)) 3 rfl ?_
    rcases cnd_some h with ⟨hc, h⟩ | ⟨hc, h⟩
    · refine RU.tt hc ?_
      refine RU.blk (C' := (59, [some (.ref 0), some (.int x1), some (.int x2), some (.int x3)], [.int x2], σ)) 1 rfl ?_
      obtain ⟨rfl, rfl⟩ := ret_inj h
      exact RU.ret rfl rfl rfl
    · refine RU.ff hc ?_
      refine RU.blk (C' := (37, [some (.ref 0), some (.int x1), some (.int x2), some (.int x3)], [.int x1, .ref 10, .int x3, .int x1, .ref 10, .ref 14], σ)) 9 rfl ?_
      obtain ⟨⟨v1, s1⟩, hk, h⟩ := Option.bind_eq_some_iff.mp h
      dsimp only at h
      refine RU.call (as := [.ref 10, .int x1]) (rest := [.int x3, .int x1, .ref 10, .ref 14]) (u := some (.int v1)) (C' := (40, [some (.ref 0), some (.int x1), some (.int x2), some (.int x3)], [.int v1, .int x3, .int x1, .ref 10, .ref 14], s1)) rfl rfl (m_X1_shortOf x1 σ hk) rfl rfl ?_
      obtain ⟨⟨v2, s2⟩, hk, h⟩ := Option.bind_eq_some_iff.mp h
      dsimp only at h
      refine RU.call (as := [.ref 14, .ref 10, .int x1, .int x3, .int v1]) (rest := []) (u := some (.int v2)) (C' := (43, [some (.ref 0), some (.int x1), some (.int x2), some (.int x3)], [.int v2], s2)) rfl rfl (m_X0_areSo x1 x3 v1 s1 hk) rfl rfl ?_
      refine RU.blk (C' := (bif cEq v2 0 then 52 else 46, [some (.ref 0), some (.int x1), some (.int x2), some (.int x3)], [], s2)) 1 rfl ?_
      rcases cnd_some h with ⟨hc, h⟩ | ⟨hc, h⟩
      · refine RU.tt hc ?_
        refine RU.blk (C' := (17, [some (.ref 0), some (.int x1), some (.int x2), some (.int (x3 + (1)))], [], s2)) 2 rfl ?_
        exact ih x1 x2 (x3 + (1)) _ _ _ h
      · refine RU.ff hc ?_
        refine RU.blk (C' := (17, [some (.ref 0), some (.int x1), some (.int (x2 ||| (shl (1) x3))), some (.int (x3 + (1)))], [], s2)) 8 rfl ?_
        exact ih x1 (x2 ||| (shl (1) x3)) (x3 + (1)) _ _ _ h
noncomputable def F_X4_kinds (p0 : Int32) (σ : PS) : Option (Int32 × PS) :=
  (F_X1_isLooker p0 σ).bind fun q3 =>
  let v3 := q3.1
  let s3 := q3.2
  bif cNe v3 0 then (
    L_X4_kinds fuelN  p0 (0) (0) s3
  ) else (
    some ((-1), s3)
  )
set_option maxRecDepth 50000 in
theorem m_X4_kinds (p0 : Int32) (σ : PS) {v : Int32} {σ' : PS} (h : F_X4_kinds p0 σ = some (v, σ')) : PR 89 [.ref 0, .int p0] σ (some (.int v)) σ' := by
  refine PR.enter (L := [some (.ref 0), some (.int p0), none, none]) uT_89 uD_89 rfl rfl ?_
  unfold F_X4_kinds at h
  refine RU.blk (C' := (5, [some (.ref 0), some (.int p0), none, none], [.int p0, .ref 10], σ)) 3 rfl ?_
  obtain ⟨⟨v3, s3⟩, hk, h⟩ := Option.bind_eq_some_iff.mp h
  dsimp only at h
  refine RU.call (as := [.ref 10, .int p0]) (rest := []) (u := some (.int v3)) (C' := (8, [some (.ref 0), some (.int p0), none, none], [.int v3], s3)) rfl rfl (m_X1_isLooker p0 σ hk) rfl rfl ?_
  refine RU.blk (C' := (bif cNe v3 0 then 13 else 11, [some (.ref 0), some (.int p0), none, none], [], s3)) 1 rfl ?_
  rcases cnd_some h with ⟨hc, h⟩ | ⟨hc, h⟩
  · refine RU.tt hc ?_
    refine RU.blk (C' := (17, [some (.ref 0), some (.int p0), some (.int (0)), some (.int (0))], [], s3)) 4 rfl ?_
    exact (ml_X4_kinds fuelN) p0 (0) (0) _ _ _ h
  · refine RU.ff hc ?_
    refine RU.blk (C' := (12, [some (.ref 0), some (.int p0), none, none], [.int (-1)], s3)) 1 rfl ?_
    obtain ⟨rfl, rfl⟩ := ret_inj h
    exact RU.ret rfl rfl rfl
noncomputable def L_X4_greatestDivisor  : Nat → Int32 → Int32 → Int32 → PS → Option (Int32 × PS)
  | 0, _, _, _, _ => none
  | n + 1, x0, x1, x2, σ => 
    bif cLe x2 0 then (
      some ((0), σ)
    ) else (
      bif decide (x2 = 0) then none else
      bif cNe (irem x0 x2) 0 then (
        L_X4_greatestDivisor n  x0 x1 (x2 + (-1)) σ
      ) else (
        bif decide (x2 = 0) then none else
        bif cNe (irem x1 x2) 0 then (
          L_X4_greatestDivisor n  x0 x1 (x2 + (-1)) σ
        ) else (
          some (x2, σ)
        )
      )
    )
set_option maxRecDepth 50000 in
theorem ml_X4_greatestDivisor  (n : Nat) : (∀ (x0 : Int32) (x1 : Int32) (x2 : Int32) (σ : PS) (v : Int32) (σ' : PS), L_X4_greatestDivisor n x0 x1 x2 σ = some (v, σ') → RU ubX4_greatestDivisor 0 0 (2, [some (.int x0), some (.int x1), some (.int x2)], [], σ) (some (.int v)) σ') := by
  induction n with
  | zero =>
    intro x0 x1 x2 σ v σ' h; exact absurd (show (none : Option (Int32 × PS)) = some (v, σ') from h) (by simp)
  | succ n ih =>
    intro x0 x1 x2 σ v σ' h
    rw [L_X4_greatestDivisor] at h
    refine RU.blk (C' := (bif cLe x2 0 then 26 else 6, [some (.int x0), some (.int x1), some (.int x2)], [], σ)) 2 rfl ?_
    rcases cnd_some h with ⟨hc, h⟩ | ⟨hc, h⟩
    · refine RU.tt hc ?_
      refine RU.blk (C' := (27, [some (.int x0), some (.int x1), some (.int x2)], [.int (0)], σ)) 1 rfl ?_
      obtain ⟨rfl, rfl⟩ := ret_inj h
      exact RU.ret rfl rfl rfl
    · refine RU.ff hc ?_
      refine RU.blk (C' := (8, [some (.int x0), some (.int x1), some (.int x2)], [.int x2, .int x0], σ)) 2 rfl ?_
      obtain ⟨hv, h⟩ := cnd_e h
      refine RU.idiv rfl hv ?_
      refine RU.blk (C' := (bif cNe (irem x0 x2) 0 then 20 else 12, [some (.int x0), some (.int x1), some (.int x2)], [], σ)) 1 rfl ?_
      rcases cnd_some h with ⟨hc, h⟩ | ⟨hc, h⟩
      · refine RU.tt hc ?_
        refine RU.blk (C' := (2, [some (.int x0), some (.int x1), some (.int (x2 + (-1)))], [], σ)) 2 rfl ?_
        exact ih x0 x1 (x2 + (-1)) _ _ _ h
      · refine RU.ff hc ?_
        refine RU.blk (C' := (14, [some (.int x0), some (.int x1), some (.int x2)], [.int x2, .int x1], σ)) 2 rfl ?_
        obtain ⟨hv, h⟩ := cnd_e h
        refine RU.idiv rfl hv ?_
        refine RU.blk (C' := (bif cNe (irem x1 x2) 0 then 20 else 18, [some (.int x0), some (.int x1), some (.int x2)], [], σ)) 1 rfl ?_
        rcases cnd_some h with ⟨hc, h⟩ | ⟨hc, h⟩
        · refine RU.tt hc ?_
          refine RU.blk (C' := (2, [some (.int x0), some (.int x1), some (.int (x2 + (-1)))], [], σ)) 2 rfl ?_
          exact ih x0 x1 (x2 + (-1)) _ _ _ h
        · refine RU.ff hc ?_
          refine RU.blk (C' := (19, [some (.int x0), some (.int x1), some (.int x2)], [.int x2], σ)) 1 rfl ?_
          obtain ⟨rfl, rfl⟩ := ret_inj h
          exact RU.ret rfl rfl rfl
noncomputable def F_X4_greatestDivisor (p0 : Int32) (p1 : Int32) (σ : PS) : Option (Int32 × PS) :=
  L_X4_greatestDivisor fuelN  p0 p1 p1 σ
set_option maxRecDepth 50000 in
theorem m_X4_greatestDivisor (p0 : Int32) (p1 : Int32) (σ : PS) {v : Int32} {σ' : PS} (h : F_X4_greatestDivisor p0 p1 σ = some (v, σ')) : PR 118 [.int p0, .int p1] σ (some (.int v)) σ' := by
  refine PR.enter (L := [some (.int p0), some (.int p1), none]) uT_118 uD_118 rfl rfl ?_
  unfold F_X4_greatestDivisor at h
  refine RU.blk (C' := (2, [some (.int p0), some (.int p1), some (.int p1)], [], σ)) 2 rfl ?_
  exact (ml_X4_greatestDivisor fuelN) p0 p1 p1 _ _ _ h
noncomputable def F_X4_odds (p0 : Int32) (p1 : Int32) (p2 : Int32) (σ : PS) : Option (Int64 × PS) :=
  (F_X1_isLooker p0 σ).bind fun q1 =>
  let v1 := q1.1
  let s1 := q1.2
  bif cNe v1 0 then (
    (F_X4_within p1 (0) (20) s1).bind fun q2 =>
    let v2 := q2.1
    let s2 := q2.2
    bif cEq v2 0 then (
      some ((-9223372036854775808), s2)
    ) else (
      (F_X4_within p2 (0) (1) s2).bind fun q3 =>
      let v3 := q3.1
      let s3 := q3.2
      bif cNe v3 0 then (
        (F_X1_placesWhereTold p0 p1 s3).bind fun q4 =>
        let v4 := q4.1
        let s4 := q4.2
        (F_X1_places s4).bind fun q5 =>
        let v5 := q5.1
        let s5 := q5.2
        (F_X4_greatestDivisor v4 v5 s5).bind fun q6 =>
        let v6 := q6.1
        let s6 := q6.2
        bif cNe v6 0 then (
          bif cNe p2 0 then (
            bif decide (v6 = 0) then none else
            some ((Int32.toInt64 (v5 / v6)), s6)
          ) else (
            bif decide (v6 = 0) then none else
            some ((Int32.toInt64 (v4 / v6)), s6)
          )
        ) else (
          some ((-9223372036854775808), s6)
        )
      ) else (
        some ((-9223372036854775808), s3)
      )
    )
  ) else (
    some ((-9223372036854775808), s1)
  )
set_option maxRecDepth 50000 in
theorem m_X4_odds (p0 : Int32) (p1 : Int32) (p2 : Int32) (σ : PS) {v : Int64} {σ' : PS} (h : F_X4_odds p0 p1 p2 σ = some (v, σ')) : PR 90 [.ref 0, .int p0, .int p1, .int p2] σ (some (.long v)) σ' := by
  refine PR.enter (L := [some (.ref 0), some (.int p0), some (.int p1), some (.int p2), none, none, none]) uT_90 uD_90 rfl rfl ?_
  unfold F_X4_odds at h
  refine RU.blk (C' := (5, [some (.ref 0), some (.int p0), some (.int p1), some (.int p2), none, none, none], [.int p0, .ref 10], σ)) 3 rfl ?_
  obtain ⟨⟨v1, s1⟩, hk, h⟩ := Option.bind_eq_some_iff.mp h
  dsimp only at h
  refine RU.call (as := [.ref 10, .int p0]) (rest := []) (u := some (.int v1)) (C' := (8, [some (.ref 0), some (.int p0), some (.int p1), some (.int p2), none, none, none], [.int v1], s1)) rfl rfl (m_X1_isLooker p0 σ hk) rfl rfl ?_
  refine RU.blk (C' := (bif cNe v1 0 then 15 else 11, [some (.ref 0), some (.int p0), some (.int p1), some (.int p2), none, none, none], [], s1)) 1 rfl ?_
  rcases cnd_some h with ⟨hc, h⟩ | ⟨hc, h⟩
  · refine RU.tt hc ?_
    refine RU.blk (C' := (19, [some (.ref 0), some (.int p0), some (.int p1), some (.int p2), none, none, none], [.int (20), .int (0), .int p1], s1)) 3 rfl ?_
    obtain ⟨⟨v2, s2⟩, hk, h⟩ := Option.bind_eq_some_iff.mp h
    dsimp only at h
    refine RU.call (as := [.int p1, .int (0), .int (20)]) (rest := []) (u := some (.int v2)) (C' := (22, [some (.ref 0), some (.int p0), some (.int p1), some (.int p2), none, none, none], [.int v2], s2)) rfl rfl (m_X4_within p1 (0) (20) s1 hk) rfl rfl ?_
    refine RU.blk (C' := (bif cEq v2 0 then 34 else 25, [some (.ref 0), some (.int p0), some (.int p1), some (.int p2), none, none, none], [], s2)) 1 rfl ?_
    rcases cnd_some h with ⟨hc, h⟩ | ⟨hc, h⟩
    · refine RU.tt hc ?_
      refine RU.blk (C' := (37, [some (.ref 0), some (.int p0), some (.int p1), some (.int p2), none, none, none], [.long (-9223372036854775808)], s2)) 1 rfl ?_
      obtain ⟨rfl, rfl⟩ := ret_inj h
      exact RU.ret rfl rfl rfl
    · refine RU.ff hc ?_
      refine RU.blk (C' := (28, [some (.ref 0), some (.int p0), some (.int p1), some (.int p2), none, none, none], [.int (1), .int (0), .int p2], s2)) 3 rfl ?_
      obtain ⟨⟨v3, s3⟩, hk, h⟩ := Option.bind_eq_some_iff.mp h
      dsimp only at h
      refine RU.call (as := [.int p2, .int (0), .int (1)]) (rest := []) (u := some (.int v3)) (C' := (31, [some (.ref 0), some (.int p0), some (.int p1), some (.int p2), none, none, none], [.int v3], s3)) rfl rfl (m_X4_within p2 (0) (1) s2 hk) rfl rfl ?_
      refine RU.blk (C' := (bif cNe v3 0 then 38 else 34, [some (.ref 0), some (.int p0), some (.int p1), some (.int p2), none, none, none], [], s3)) 1 rfl ?_
      rcases cnd_some h with ⟨hc, h⟩ | ⟨hc, h⟩
      · refine RU.tt hc ?_
        refine RU.blk (C' := (44, [some (.ref 0), some (.int p0), some (.int p1), some (.int p2), none, none, none], [.int p1, .int p0, .ref 10], s3)) 4 rfl ?_
        obtain ⟨⟨v4, s4⟩, hk, h⟩ := Option.bind_eq_some_iff.mp h
        dsimp only at h
        refine RU.call (as := [.ref 10, .int p0, .int p1]) (rest := []) (u := some (.int v4)) (C' := (47, [some (.ref 0), some (.int p0), some (.int p1), some (.int p2), none, none, none], [.int v4], s4)) rfl rfl (m_X1_placesWhereTold p0 p1 s3 hk) rfl rfl ?_
        refine RU.blk (C' := (53, [some (.ref 0), some (.int p0), some (.int p1), some (.int p2), some (.int v4), none, none], [.ref 10], s4)) 3 rfl ?_
        obtain ⟨⟨v5, s5⟩, hk, h⟩ := Option.bind_eq_some_iff.mp h
        dsimp only at h
        refine RU.call (as := [.ref 10]) (rest := []) (u := some (.int v5)) (C' := (56, [some (.ref 0), some (.int p0), some (.int p1), some (.int p2), some (.int v4), none, none], [.int v5], s5)) rfl rfl (m_X1_places s4 hk) rfl rfl ?_
        refine RU.blk (C' := (62, [some (.ref 0), some (.int p0), some (.int p1), some (.int p2), some (.int v4), some (.int v5), none], [.int v5, .int v4], s5)) 3 rfl ?_
        obtain ⟨⟨v6, s6⟩, hk, h⟩ := Option.bind_eq_some_iff.mp h
        dsimp only at h
        refine RU.call (as := [.int v4, .int v5]) (rest := []) (u := some (.int v6)) (C' := (65, [some (.ref 0), some (.int p0), some (.int p1), some (.int p2), some (.int v4), some (.int v5), none], [.int v6], s6)) rfl rfl (m_X4_greatestDivisor v4 v5 s5 hk) rfl rfl ?_
        refine RU.blk (C' := (bif cNe v6 0 then 76 else 72, [some (.ref 0), some (.int p0), some (.int p1), some (.int p2), some (.int v4), some (.int v5), some (.int v6)], [], s6)) 3 rfl ?_
        rcases cnd_some h with ⟨hc, h⟩ | ⟨hc, h⟩
        · refine RU.tt hc ?_
          refine RU.blk (C' := (bif cNe p2 0 then 89 else 80, [some (.ref 0), some (.int p0), some (.int p1), some (.int p2), some (.int v4), some (.int v5), some (.int v6)], [], s6)) 2 rfl ?_
          rcases cnd_some h with ⟨hc, h⟩ | ⟨hc, h⟩
          · refine RU.tt hc ?_
            refine RU.blk (C' := (93, [some (.ref 0), some (.int p0), some (.int p1), some (.int p2), some (.int v4), some (.int v5), some (.int v6)], [.int v6, .int v5], s6)) 2 rfl ?_
            obtain ⟨hv, h⟩ := cnd_e h
            refine RU.idiv rfl hv ?_
            refine RU.blk (C' := (95, [some (.ref 0), some (.int p0), some (.int p1), some (.int p2), some (.int v4), some (.int v5), some (.int v6)], [.long (Int32.toInt64 (v5 / v6))], s6)) 1 rfl ?_
            obtain ⟨rfl, rfl⟩ := ret_inj h
            exact RU.ret rfl rfl rfl
          · refine RU.ff hc ?_
            refine RU.blk (C' := (84, [some (.ref 0), some (.int p0), some (.int p1), some (.int p2), some (.int v4), some (.int v5), some (.int v6)], [.int v6, .int v4], s6)) 2 rfl ?_
            obtain ⟨hv, h⟩ := cnd_e h
            refine RU.idiv rfl hv ?_
            refine RU.blk (C' := (95, [some (.ref 0), some (.int p0), some (.int p1), some (.int p2), some (.int v4), some (.int v5), some (.int v6)], [.long (Int32.toInt64 (v4 / v6))], s6)) 2 rfl ?_
            obtain ⟨rfl, rfl⟩ := ret_inj h
            exact RU.ret rfl rfl rfl
        · refine RU.ff hc ?_
          refine RU.blk (C' := (75, [some (.ref 0), some (.int p0), some (.int p1), some (.int p2), some (.int v4), some (.int v5), some (.int v6)], [.long (-9223372036854775808)], s6)) 1 rfl ?_
          obtain ⟨rfl, rfl⟩ := ret_inj h
          exact RU.ret rfl rfl rfl
      · refine RU.ff hc ?_
        refine RU.blk (C' := (37, [some (.ref 0), some (.int p0), some (.int p1), some (.int p2), none, none, none], [.long (-9223372036854775808)], s3)) 1 rfl ?_
        obtain ⟨rfl, rfl⟩ := ret_inj h
        exact RU.ret rfl rfl rfl
  · refine RU.ff hc ?_
    refine RU.blk (C' := (14, [some (.ref 0), some (.int p0), some (.int p1), some (.int p2), none, none, none], [.long (-9223372036854775808)], s1)) 1 rfl ?_
    obtain ⟨rfl, rfl⟩ := ret_inj h
    exact RU.ret rfl rfl rfl
noncomputable def F_X4_sheet (p0 : Int32) (p1 : Int32) (p2 : Int32) (σ : PS) : Option (Int32 × PS) :=
  (F_X4_sheetOf p0 (sI σ 5 (0))).bind fun q1 =>
  let s1 := q1.2
  match q1.1 with
  | none => (
    some ((-1), s1)
  )
  | some r51 => bif isSh r51 then (
    (F_X4_isLane p1 s1).bind fun q2 =>
    let v2 := q2.1
    let s2 := q2.2
    bif cEq v2 0 then (
      some ((-2), s2)
    ) else (
      bif cLe p2 (60) then (
        bif cGe p2 0 then (
          (F_X3_renew r51 p1 p2 s2).bind fun q3 =>
          let s3 := q3.2
          some ((1), s3)
        ) else (
          (F_X4_faulted (4) s2).bind fun q4 =>
          let v4 := q4.1
          let s4 := q4.2
          some (v4, s4)
        )
      ) else (
        some ((-2), s2)
      )
    )
  ) else none
set_option maxRecDepth 50000 in
theorem m_X4_sheet (p0 : Int32) (p1 : Int32) (p2 : Int32) (σ : PS) {v : Int32} {σ' : PS} (h : F_X4_sheet p0 p1 p2 σ = some (v, σ')) : PR 91 [.ref 0, .int p0, .int p1, .int p2] σ (some (.int v)) σ' := by
  refine PR.enter (L := [some (.ref 0), some (.int p0), some (.int p1), some (.int p2), none]) uT_91 uD_91 rfl rfl ?_
  unfold F_X4_sheet at h
  refine RU.blk (C' := (7, [some (.ref 0), some (.int p0), some (.int p1), some (.int p2), none], [.int p0, .ref 0], (sI σ 5 (0)))) 5 rfl ?_
  obtain ⟨⟨v1, s1⟩, hk, h⟩ := Option.bind_eq_some_iff.mp h
  dsimp only at h
  cases v1 with
  | none =>
    dsimp only at h
    refine RU.call (as := [.ref 0, .int p0]) (rest := []) (u := some .null) (C' := (10, [some (.ref 0), some (.int p0), some (.int p1), some (.int p2), none], [.null], s1)) rfl rfl (m_X4_sheetOf p0 (sI σ 5 (0)) hk) rfl rfl ?_
    refine RU.blk (C' := (18, [some (.ref 0), some (.int p0), some (.int p1), some (.int p2), some (.null)], [.int (-1)], s1)) 4 rfl ?_
    obtain ⟨rfl, rfl⟩ := ret_inj h
    exact RU.ret rfl rfl rfl
  | some r51 =>
    dsimp only at h
    obtain ⟨hr51, h⟩ := cnd_n h
    refine RU.call (as := [.ref 0, .int p0]) (rest := []) (u := some (.ref r51)) (C' := (10, [some (.ref 0), some (.int p0), some (.int p1), some (.int p2), none], [.ref r51], s1)) rfl rfl (m_X4_sheetOf p0 (sI σ 5 (0)) hk) rfl rfl ?_
    refine RU.blk (C' := (20, [some (.ref 0), some (.int p0), some (.int p1), some (.int p2), some (.ref r51)], [.int p1], s1)) 4 rfl ?_
    obtain ⟨⟨v2, s2⟩, hk, h⟩ := Option.bind_eq_some_iff.mp h
    dsimp only at h
    refine RU.call (as := [.int p1]) (rest := []) (u := some (.int v2)) (C' := (23, [some (.ref 0), some (.int p0), some (.int p1), some (.int p2), some (.ref r51)], [.int v2], s2)) rfl rfl (m_X4_isLane p1 s1 hk) rfl rfl ?_
    refine RU.blk (C' := (bif cEq v2 0 then 32 else 26, [some (.ref 0), some (.int p0), some (.int p1), some (.int p2), some (.ref r51)], [], s2)) 1 rfl ?_
    rcases cnd_some h with ⟨hc, h⟩ | ⟨hc, h⟩
    · refine RU.tt hc ?_
      refine RU.blk (C' := (34, [some (.ref 0), some (.int p0), some (.int p1), some (.int p2), some (.ref r51)], [.int (-2)], s2)) 1 rfl ?_
      obtain ⟨rfl, rfl⟩ := ret_inj h
      exact RU.ret rfl rfl rfl
    · refine RU.ff hc ?_
      refine RU.blk (C' := (bif cLe p2 (60) then 35 else 32, [some (.ref 0), some (.int p0), some (.int p1), some (.int p2), some (.ref r51)], [], s2)) 3 rfl ?_
      rcases cnd_some h with ⟨hc, h⟩ | ⟨hc, h⟩
      · refine RU.tt hc ?_
        refine RU.blk (C' := (bif cGe p2 0 then 45 else 39, [some (.ref 0), some (.int p0), some (.int p1), some (.int p2), some (.ref r51)], [], s2)) 2 rfl ?_
        rcases cnd_some h with ⟨hc, h⟩ | ⟨hc, h⟩
        · refine RU.tt hc ?_
          refine RU.blk (C' := (49, [some (.ref 0), some (.int p0), some (.int p1), some (.int p2), some (.ref r51)], [.int p2, .int p1, .ref r51], s2)) 3 rfl ?_
          obtain ⟨⟨v3, s3⟩, hk, h⟩ := Option.bind_eq_some_iff.mp h
          dsimp only at h
          refine RU.call (as := [.ref r51, .int p1, .int p2]) (rest := []) (u := none) (C' := (52, [some (.ref 0), some (.int p0), some (.int p1), some (.int p2), some (.ref r51)], [], s3)) rfl (pargs_sh hr51 rfl rfl rfl rfl) (m_X3_renew r51 hr51 p1 p2 s2 hk) rfl rfl ?_
          refine RU.blk (C' := (53, [some (.ref 0), some (.int p0), some (.int p1), some (.int p2), some (.ref r51)], [.int (1)], s3)) 1 rfl ?_
          obtain ⟨rfl, rfl⟩ := ret_inj h
          exact RU.ret rfl rfl rfl
        · refine RU.ff hc ?_
          refine RU.blk (C' := (41, [some (.ref 0), some (.int p0), some (.int p1), some (.int p2), some (.ref r51)], [.int (4), .ref 0], s2)) 2 rfl ?_
          obtain ⟨⟨v4, s4⟩, hk, h⟩ := Option.bind_eq_some_iff.mp h
          dsimp only at h
          refine RU.call (as := [.ref 0, .int (4)]) (rest := []) (u := some (.int v4)) (C' := (44, [some (.ref 0), some (.int p0), some (.int p1), some (.int p2), some (.ref r51)], [.int v4], s4)) rfl rfl (m_X4_faulted (4) s2 hk) rfl rfl ?_
          obtain ⟨rfl, rfl⟩ := ret_inj h
          exact RU.ret rfl rfl rfl
      · refine RU.ff hc ?_
        refine RU.blk (C' := (34, [some (.ref 0), some (.int p0), some (.int p1), some (.int p2), some (.ref r51)], [.int (-2)], s2)) 1 rfl ?_
        obtain ⟨rfl, rfl⟩ := ret_inj h
        exact RU.ret rfl rfl rfl
noncomputable def F_X4_lose (p0 : Int32) (σ : PS) : Option (Int32 × PS) :=
  (F_X4_sheetOf p0 σ).bind fun q1 =>
  let s1 := q1.2
  match q1.1 with
  | none => (
    some ((-1), s1)
  )
  | some r51 => bif isSh r51 then (
    (F_X3_hasNothing r51 s1).bind fun q2 =>
    let v2 := q2.1
    let s2 := q2.2
    bif cEq v2 0 then (
      (F_X3_clear r51 s2).bind fun q3 =>
      let s3 := q3.2
      some ((1), s3)
    ) else (
      some ((0), s2)
    )
  ) else none
set_option maxRecDepth 50000 in
theorem m_X4_lose (p0 : Int32) (σ : PS) {v : Int32} {σ' : PS} (h : F_X4_lose p0 σ = some (v, σ')) : PR 92 [.ref 0, .int p0] σ (some (.int v)) σ' := by
  refine PR.enter (L := [some (.ref 0), some (.int p0), none]) uT_92 uD_92 rfl rfl ?_
  unfold F_X4_lose at h
  refine RU.blk (C' := (2, [some (.ref 0), some (.int p0), none], [.int p0, .ref 0], σ)) 2 rfl ?_
  obtain ⟨⟨v1, s1⟩, hk, h⟩ := Option.bind_eq_some_iff.mp h
  dsimp only at h
  cases v1 with
  | none =>
    dsimp only at h
    refine RU.call (as := [.ref 0, .int p0]) (rest := []) (u := some .null) (C' := (5, [some (.ref 0), some (.int p0), none], [.null], s1)) rfl rfl (m_X4_sheetOf p0 σ hk) rfl rfl ?_
    refine RU.blk (C' := (11, [some (.ref 0), some (.int p0), some (.null)], [.int (-1)], s1)) 4 rfl ?_
    obtain ⟨rfl, rfl⟩ := ret_inj h
    exact RU.ret rfl rfl rfl
  | some r51 =>
    dsimp only at h
    obtain ⟨hr51, h⟩ := cnd_n h
    refine RU.call (as := [.ref 0, .int p0]) (rest := []) (u := some (.ref r51)) (C' := (5, [some (.ref 0), some (.int p0), none], [.ref r51], s1)) rfl rfl (m_X4_sheetOf p0 σ hk) rfl rfl ?_
    refine RU.blk (C' := (13, [some (.ref 0), some (.int p0), some (.ref r51)], [.ref r51], s1)) 4 rfl ?_
    obtain ⟨⟨v2, s2⟩, hk, h⟩ := Option.bind_eq_some_iff.mp h
    dsimp only at h
    refine RU.call (as := [.ref r51]) (rest := []) (u := some (.int v2)) (C' := (16, [some (.ref 0), some (.int p0), some (.ref r51)], [.int v2], s2)) rfl (pargs_sh hr51 rfl rfl rfl rfl) (m_X3_hasNothing r51 hr51 s1 hk) rfl rfl ?_
    refine RU.blk (C' := (bif cEq v2 0 then 21 else 19, [some (.ref 0), some (.int p0), some (.ref r51)], [], s2)) 1 rfl ?_
    rcases cnd_some h with ⟨hc, h⟩ | ⟨hc, h⟩
    · refine RU.tt hc ?_
      refine RU.blk (C' := (22, [some (.ref 0), some (.int p0), some (.ref r51)], [.ref r51], s2)) 1 rfl ?_
      obtain ⟨⟨v3, s3⟩, hk, h⟩ := Option.bind_eq_some_iff.mp h
      dsimp only at h
      refine RU.call (as := [.ref r51]) (rest := []) (u := none) (C' := (25, [some (.ref 0), some (.int p0), some (.ref r51)], [], s3)) rfl (pargs_sh hr51 rfl rfl rfl rfl) (m_X3_clear r51 hr51 s2 hk) rfl rfl ?_
      refine RU.blk (C' := (26, [some (.ref 0), some (.int p0), some (.ref r51)], [.int (1)], s3)) 1 rfl ?_
      obtain ⟨rfl, rfl⟩ := ret_inj h
      exact RU.ret rfl rfl rfl
    · refine RU.ff hc ?_
      refine RU.blk (C' := (20, [some (.ref 0), some (.int p0), some (.ref r51)], [.int (0)], s2)) 1 rfl ?_
      obtain ⟨rfl, rfl⟩ := ret_inj h
      exact RU.ret rfl rfl rfl
noncomputable def F_X4_put (p0 : Int32) (p1 : Int32) (p2 : Int32) (σ : PS) : Option (Int32 × PS) :=
  (F_X4_sheetOf p0 (sI σ 5 (0))).bind fun q1 =>
  let s1 := q1.2
  match q1.1 with
  | none => (
    some ((-1), s1)
  )
  | some r51 => bif isSh r51 then (
    (F_X3_hasNothing r51 s1).bind fun q2 =>
    let v2 := q2.1
    let s2 := q2.2
    bif cEq v2 0 then (
      (F_X3_hasCells r51 p1 (1) s2).bind fun q3 =>
      let v3 := q3.1
      let s3 := q3.2
      bif cNe v3 0 then (
        (F_X3_write r51 p1 p2 s3).bind fun q4 =>
        let s4 := q4.2
        some ((1), s4)
      ) else (
        (F_X4_faulted (3) s3).bind fun q5 =>
        let v5 := q5.1
        let s5 := q5.2
        some (v5, s5)
      )
    ) else (
      (F_X4_faulted (1) s2).bind fun q6 =>
      let v6 := q6.1
      let s6 := q6.2
      some (v6, s6)
    )
  ) else none
set_option maxRecDepth 50000 in
theorem m_X4_put (p0 : Int32) (p1 : Int32) (p2 : Int32) (σ : PS) {v : Int32} {σ' : PS} (h : F_X4_put p0 p1 p2 σ = some (v, σ')) : PR 93 [.ref 0, .int p0, .int p1, .int p2] σ (some (.int v)) σ' := by
  refine PR.enter (L := [some (.ref 0), some (.int p0), some (.int p1), some (.int p2), none]) uT_93 uD_93 rfl rfl ?_
  unfold F_X4_put at h
  refine RU.blk (C' := (7, [some (.ref 0), some (.int p0), some (.int p1), some (.int p2), none], [.int p0, .ref 0], (sI σ 5 (0)))) 5 rfl ?_
  obtain ⟨⟨v1, s1⟩, hk, h⟩ := Option.bind_eq_some_iff.mp h
  dsimp only at h
  cases v1 with
  | none =>
    dsimp only at h
    refine RU.call (as := [.ref 0, .int p0]) (rest := []) (u := some .null) (C' := (10, [some (.ref 0), some (.int p0), some (.int p1), some (.int p2), none], [.null], s1)) rfl rfl (m_X4_sheetOf p0 (sI σ 5 (0)) hk) rfl rfl ?_
    refine RU.blk (C' := (18, [some (.ref 0), some (.int p0), some (.int p1), some (.int p2), some (.null)], [.int (-1)], s1)) 4 rfl ?_
    obtain ⟨rfl, rfl⟩ := ret_inj h
    exact RU.ret rfl rfl rfl
  | some r51 =>
    dsimp only at h
    obtain ⟨hr51, h⟩ := cnd_n h
    refine RU.call (as := [.ref 0, .int p0]) (rest := []) (u := some (.ref r51)) (C' := (10, [some (.ref 0), some (.int p0), some (.int p1), some (.int p2), none], [.ref r51], s1)) rfl rfl (m_X4_sheetOf p0 (sI σ 5 (0)) hk) rfl rfl ?_
    refine RU.blk (C' := (21, [some (.ref 0), some (.int p0), some (.int p1), some (.int p2), some (.ref r51)], [.ref r51], s1)) 4 rfl ?_
    obtain ⟨⟨v2, s2⟩, hk, h⟩ := Option.bind_eq_some_iff.mp h
    dsimp only at h
    refine RU.call (as := [.ref r51]) (rest := []) (u := some (.int v2)) (C' := (24, [some (.ref 0), some (.int p0), some (.int p1), some (.int p2), some (.ref r51)], [.int v2], s2)) rfl (pargs_sh hr51 rfl rfl rfl rfl) (m_X3_hasNothing r51 hr51 s1 hk) rfl rfl ?_
    refine RU.blk (C' := (bif cEq v2 0 then 33 else 27, [some (.ref 0), some (.int p0), some (.int p1), some (.int p2), some (.ref r51)], [], s2)) 1 rfl ?_
    rcases cnd_some h with ⟨hc, h⟩ | ⟨hc, h⟩
    · refine RU.tt hc ?_
      refine RU.blk (C' := (37, [some (.ref 0), some (.int p0), some (.int p1), some (.int p2), some (.ref r51)], [.int (1), .int p1, .ref r51], s2)) 3 rfl ?_
      obtain ⟨⟨v3, s3⟩, hk, h⟩ := Option.bind_eq_some_iff.mp h
      dsimp only at h
      refine RU.call (as := [.ref r51, .int p1, .int (1)]) (rest := []) (u := some (.int v3)) (C' := (40, [some (.ref 0), some (.int p0), some (.int p1), some (.int p2), some (.ref r51)], [.int v3], s3)) rfl (pargs_sh hr51 rfl rfl rfl rfl) (m_X3_hasCells r51 hr51 p1 (1) s2 hk) rfl rfl ?_
      refine RU.blk (C' := (bif cNe v3 0 then 49 else 43, [some (.ref 0), some (.int p0), some (.int p1), some (.int p2), some (.ref r51)], [], s3)) 1 rfl ?_
      rcases cnd_some h with ⟨hc, h⟩ | ⟨hc, h⟩
      · refine RU.tt hc ?_
        refine RU.blk (C' := (53, [some (.ref 0), some (.int p0), some (.int p1), some (.int p2), some (.ref r51)], [.int p2, .int p1, .ref r51], s3)) 3 rfl ?_
        obtain ⟨⟨v4, s4⟩, hk, h⟩ := Option.bind_eq_some_iff.mp h
        dsimp only at h
        refine RU.call (as := [.ref r51, .int p1, .int p2]) (rest := []) (u := none) (C' := (56, [some (.ref 0), some (.int p0), some (.int p1), some (.int p2), some (.ref r51)], [], s4)) rfl (pargs_sh hr51 rfl rfl rfl rfl) (m_X3_write r51 hr51 p1 p2 s3 hk) rfl rfl ?_
        refine RU.blk (C' := (57, [some (.ref 0), some (.int p0), some (.int p1), some (.int p2), some (.ref r51)], [.int (1)], s4)) 1 rfl ?_
        obtain ⟨rfl, rfl⟩ := ret_inj h
        exact RU.ret rfl rfl rfl
      · refine RU.ff hc ?_
        refine RU.blk (C' := (45, [some (.ref 0), some (.int p0), some (.int p1), some (.int p2), some (.ref r51)], [.int (3), .ref 0], s3)) 2 rfl ?_
        obtain ⟨⟨v5, s5⟩, hk, h⟩ := Option.bind_eq_some_iff.mp h
        dsimp only at h
        refine RU.call (as := [.ref 0, .int (3)]) (rest := []) (u := some (.int v5)) (C' := (48, [some (.ref 0), some (.int p0), some (.int p1), some (.int p2), some (.ref r51)], [.int v5], s5)) rfl rfl (m_X4_faulted (3) s3 hk) rfl rfl ?_
        obtain ⟨rfl, rfl⟩ := ret_inj h
        exact RU.ret rfl rfl rfl
    · refine RU.ff hc ?_
      refine RU.blk (C' := (29, [some (.ref 0), some (.int p0), some (.int p1), some (.int p2), some (.ref r51)], [.int (1), .ref 0], s2)) 2 rfl ?_
      obtain ⟨⟨v6, s6⟩, hk, h⟩ := Option.bind_eq_some_iff.mp h
      dsimp only at h
      refine RU.call (as := [.ref 0, .int (1)]) (rest := []) (u := some (.int v6)) (C' := (32, [some (.ref 0), some (.int p0), some (.int p1), some (.int p2), some (.ref r51)], [.int v6], s6)) rfl rfl (m_X4_faulted (1) s2 hk) rfl rfl ?_
      obtain ⟨rfl, rfl⟩ := ret_inj h
      exact RU.ret rfl rfl rfl
noncomputable def F_X4_cell (p0 : Int32) (p1 : Int32) (p2 : Int32) (σ : PS) : Option (Int64 × PS) :=
  (F_X4_sheetOf p0 (sI σ 5 (0))).bind fun q1 =>
  let s1 := q1.2
  match q1.1 with
  | none => (
    some ((-9223372036854775808), s1)
  )
  | some r51 => bif isSh r51 then (
    (F_X4_isLane p2 s1).bind fun q2 =>
    let v2 := q2.1
    let s2 := q2.2
    bif cNe v2 0 then (
      (F_X3_faultInTaking r51 p2 p1 (1) s2).bind fun q3 =>
      let v3 := q3.1
      let s3 := q3.2
      bif cNe (gI (sI s3 5 v3) 5) 0 then (
        some ((-9223372036854775808), (sI s3 5 v3))
      ) else (
        (F_X3_read r51 p1 (sI s3 5 v3)).bind fun q4 =>
        let v4 := q4.1
        let s4 := q4.2
        some ((Int32.toInt64 v4), s4)
      )
    ) else (
      some ((-9223372036854775808), s2)
    )
  ) else none
set_option maxRecDepth 50000 in
theorem m_X4_cell (p0 : Int32) (p1 : Int32) (p2 : Int32) (σ : PS) {v : Int64} {σ' : PS} (h : F_X4_cell p0 p1 p2 σ = some (v, σ')) : PR 94 [.ref 0, .int p0, .int p1, .int p2] σ (some (.long v)) σ' := by
  refine PR.enter (L := [some (.ref 0), some (.int p0), some (.int p1), some (.int p2), none]) uT_94 uD_94 rfl rfl ?_
  unfold F_X4_cell at h
  refine RU.blk (C' := (7, [some (.ref 0), some (.int p0), some (.int p1), some (.int p2), none], [.int p0, .ref 0], (sI σ 5 (0)))) 5 rfl ?_
  obtain ⟨⟨v1, s1⟩, hk, h⟩ := Option.bind_eq_some_iff.mp h
  dsimp only at h
  cases v1 with
  | none =>
    dsimp only at h
    refine RU.call (as := [.ref 0, .int p0]) (rest := []) (u := some .null) (C' := (10, [some (.ref 0), some (.int p0), some (.int p1), some (.int p2), none], [.null], s1)) rfl rfl (m_X4_sheetOf p0 (sI σ 5 (0)) hk) rfl rfl ?_
    refine RU.blk (C' := (27, [some (.ref 0), some (.int p0), some (.int p1), some (.int p2), some (.null)], [.long (-9223372036854775808)], s1)) 4 rfl ?_
    obtain ⟨rfl, rfl⟩ := ret_inj h
    exact RU.ret rfl rfl rfl
  | some r51 =>
    dsimp only at h
    obtain ⟨hr51, h⟩ := cnd_n h
    refine RU.call (as := [.ref 0, .int p0]) (rest := []) (u := some (.ref r51)) (C' := (10, [some (.ref 0), some (.int p0), some (.int p1), some (.int p2), none], [.ref r51], s1)) rfl rfl (m_X4_sheetOf p0 (sI σ 5 (0)) hk) rfl rfl ?_
    refine RU.blk (C' := (18, [some (.ref 0), some (.int p0), some (.int p1), some (.int p2), some (.ref r51)], [.int p2], s1)) 4 rfl ?_
    obtain ⟨⟨v2, s2⟩, hk, h⟩ := Option.bind_eq_some_iff.mp h
    dsimp only at h
    refine RU.call (as := [.int p2]) (rest := []) (u := some (.int v2)) (C' := (21, [some (.ref 0), some (.int p0), some (.int p1), some (.int p2), some (.ref r51)], [.int v2], s2)) rfl rfl (m_X4_isLane p2 s1 hk) rfl rfl ?_
    refine RU.blk (C' := (bif cNe v2 0 then 28 else 24, [some (.ref 0), some (.int p0), some (.int p1), some (.int p2), some (.ref r51)], [], s2)) 1 rfl ?_
    rcases cnd_some h with ⟨hc, h⟩ | ⟨hc, h⟩
    · refine RU.tt hc ?_
      refine RU.blk (C' := (34, [some (.ref 0), some (.int p0), some (.int p1), some (.int p2), some (.ref r51)], [.int (1), .int p1, .int p2, .ref r51, .ref 0], s2)) 5 rfl ?_
      obtain ⟨⟨v3, s3⟩, hk, h⟩ := Option.bind_eq_some_iff.mp h
      dsimp only at h
      refine RU.call (as := [.ref r51, .int p2, .int p1, .int (1)]) (rest := [.ref 0]) (u := some (.int v3)) (C' := (37, [some (.ref 0), some (.int p0), some (.int p1), some (.int p2), some (.ref r51)], [.int v3, .ref 0], s3)) rfl (pargs_sh hr51 rfl rfl rfl rfl) (m_X3_faultInTaking r51 hr51 p2 p1 (1) s2 hk) rfl rfl ?_
      refine RU.blk (C' := (bif cNe (gI (sI s3 5 v3) 5) 0 then 57 else 47, [some (.ref 0), some (.int p0), some (.int p1), some (.int p2), some (.ref r51)], [], (sI s3 5 v3))) 4 rfl ?_
      rcases cnd_some h with ⟨hc, h⟩ | ⟨hc, h⟩
      · refine RU.tt hc ?_
        refine RU.blk (C' := (60, [some (.ref 0), some (.int p0), some (.int p1), some (.int p2), some (.ref r51)], [.long (-9223372036854775808)], (sI s3 5 v3))) 1 rfl ?_
        obtain ⟨rfl, rfl⟩ := ret_inj h
        exact RU.ret rfl rfl rfl
      · refine RU.ff hc ?_
        refine RU.blk (C' := (50, [some (.ref 0), some (.int p0), some (.int p1), some (.int p2), some (.ref r51)], [.int p1, .ref r51], (sI s3 5 v3))) 2 rfl ?_
        obtain ⟨⟨v4, s4⟩, hk, h⟩ := Option.bind_eq_some_iff.mp h
        dsimp only at h
        refine RU.call (as := [.ref r51, .int p1]) (rest := []) (u := some (.int v4)) (C' := (53, [some (.ref 0), some (.int p0), some (.int p1), some (.int p2), some (.ref r51)], [.int v4], s4)) rfl (pargs_sh hr51 rfl rfl rfl rfl) (m_X3_read r51 hr51 p1 (sI s3 5 v3) hk) rfl rfl ?_
        refine RU.blk (C' := (60, [some (.ref 0), some (.int p0), some (.int p1), some (.int p2), some (.ref r51)], [.long (Int32.toInt64 v4)], s4)) 2 rfl ?_
        obtain ⟨rfl, rfl⟩ := ret_inj h
        exact RU.ret rfl rfl rfl
    · refine RU.ff hc ?_
      refine RU.blk (C' := (27, [some (.ref 0), some (.int p0), some (.int p1), some (.int p2), some (.ref r51)], [.long (-9223372036854775808)], s2)) 1 rfl ?_
      obtain ⟨rfl, rfl⟩ := ret_inj h
      exact RU.ret rfl rfl rfl
noncomputable def L_X4_copy  : Nat → Int32 → Int32 → Nat → Int32 → PS → Option (Int32 × PS)
  | 0, _, _, _, _, _ => none
  | n + 1, x4, x5, r7, x8, σ => 
    bif cGe x8 x5 then (
      some (x5, σ)
    ) else (
      (F_X4_numberAt 18 60 x8 σ).bind fun q1 =>
      let v1 := q1.1
      let s1 := q1.2
      (F_X3_write r7 (x4 + x8) v1 s1).bind fun q2 =>
      let s2 := q2.2
      L_X4_copy n  x4 x5 r7 (x8 + (1)) s2
    )
set_option maxRecDepth 50000 in
theorem ml_X4_copy  (n : Nat) : (∀ (x4 : Int32) (x5 : Int32) (r7 : Nat) (hr7 : isSh r7 = true) (x8 : Int32) (u1 : Option Value) (u2 : Option Value) (u3 : Option Value) (u6 : Option Value) (σ : PS) (v : Int32) (σ' : PS), L_X4_copy n x4 x5 r7 x8 σ = some (v, σ') → RU ubX4_copy 3 66 (116, [some (.ref 0), u1, u2, u3, some (.int x4), some (.int x5), u6, some (.ref r7), some (.int x8)], [], σ) (some (.int v)) σ') := by
  induction n with
  | zero =>
    intro x4 x5 r7 hr7 x8 u1 u2 u3 u6 σ v σ' h; exact absurd (show (none : Option (Int32 × PS)) = some (v, σ') from h) (by simp)
  | succ n ih =>
    intro x4 x5 r7 hr7 x8 u1 u2 u3 u6 σ v σ' h
    rw [L_X4_copy] at h
    refine RU.blk (C' := (bif cGe x8 x5 then 148 else 123, [some (.ref 0), none, none, none, some (.int x4), some (.int x5), none, some (.ref r7), some (.int x8)], [], σ)) 3 rfl ?_
    rcases cnd_some h with ⟨hc, h⟩ | ⟨hc, h⟩
    · refine RU.tt hc ?_
      refine RU.blk (C' := (150, [some (.ref 0), none, none, none, some (.int x4), some (.int x5), none, some (.ref r7), some (.int x8)], [.int x5], σ)) 1 rfl ?_
      obtain ⟨rfl, rfl⟩ := ret_inj h
      exact RU.ret rfl rfl rfl
    · refine RU.ff hc ?_
      refine RU.blk (C' := (136, [some (.ref 0), none, none, none, some (.int x4), some (.int x5), none, some (.ref r7), some (.int x8)], [.int x8, .ref 18, .int (x4 + x8), .ref r7], σ)) 7 rfl ?_
      obtain ⟨⟨v1, s1⟩, hk, h⟩ := Option.bind_eq_some_iff.mp h
      dsimp only at h
      refine RU.call (as := [.ref 18, .int x8]) (rest := [.int (x4 + x8), .ref r7]) (u := some (.int v1)) (C' := (139, [some (.ref 0), none, none, none, some (.int x4), some (.int x5), none, some (.ref r7), some (.int x8)], [.int v1, .int (x4 + x8), .ref r7], s1)) rfl rfl (m_X4_numberAt 18 60 rfl x8 σ hk) rfl rfl ?_
      obtain ⟨⟨v2, s2⟩, hk, h⟩ := Option.bind_eq_some_iff.mp h
      dsimp only at h
      refine RU.call (as := [.ref r7, .int (x4 + x8), .int v1]) (rest := []) (u := none) (C' := (142, [some (.ref 0), none, none, none, some (.int x4), some (.int x5), none, some (.ref r7), some (.int x8)], [], s2)) rfl (pargs_sh hr7 rfl rfl rfl rfl) (m_X3_write r7 hr7 (x4 + x8) v1 s1 hk) rfl rfl ?_
      refine RU.blk (C' := (116, [some (.ref 0), none, none, none, some (.int x4), some (.int x5), none, some (.ref r7), some (.int (x8 + (1)))], [], s2)) 2 rfl ?_
      exact ih x4 x5 r7 hr7 (x8 + (1)) none none none none _ _ _ h
noncomputable def F_X4_copy (p0 : Int32) (p1 : Int32) (p2 : Int32) (p3 : Int32) (p4 : Int32) (σ : PS) : Option (Int32 × PS) :=
  (F_X4_sheetOf p0 (sI σ 5 (0))).bind fun q3 =>
  let s3 := q3.2
  match q3.1 with
  | none => (
    (F_X4_sheetOf p2 s3).bind fun q4 =>
    let s4 := q4.2
    match q4.1 with
    | none => (
      some ((-1), s4)
    )
    | some r54 => bif isSh r54 then (
      some ((-1), s4)
    ) else none
  )
  | some r53 => bif isSh r53 then (
    (F_X4_sheetOf p2 s3).bind fun q5 =>
    let s5 := q5.2
    match q5.1 with
    | none => (
      some ((-1), s5)
    )
    | some r55 => bif isSh r55 then (
      (F_X3_hasNothing r53 s5).bind fun q6 =>
      let v6 := q6.1
      let s6 := q6.2
      bif cNe v6 0 then (
        (F_X4_faulted (1) s6).bind fun q7 =>
        let v7 := q7.1
        let s7 := q7.2
        some (v7, s7)
      ) else (
        (F_X3_hasNothing r55 s6).bind fun q8 =>
        let v8 := q8.1
        let s8 := q8.2
        bif cEq v8 0 then (
          (F_X3_lane r53 s8).bind fun q9 =>
          let v9 := q9.1
          let s9 := q9.2
          (F_X3_lane r55 s9).bind fun q10 =>
          let v10 := q10.1
          let s10 := q10.2
          bif cEq v9 v10 then (
            (F_X3_hasCells r53 p1 p4 s10).bind fun q11 =>
            let v11 := q11.1
            let s11 := q11.2
            bif cEq v11 0 then (
              (F_X4_faulted (3) s11).bind fun q12 =>
              let v12 := q12.1
              let s12 := q12.2
              some (v12, s12)
            ) else (
              (F_X3_hasCells r55 p3 p4 s11).bind fun q13 =>
              let v13 := q13.1
              let s13 := q13.2
              bif cNe v13 0 then (
                (F_X4_readInto 18 60 r53 p1 p4 s13).bind fun q14 =>
                let s14 := q14.2
                L_X4_copy fuelN  p3 p4 r55 (0) s14
              ) else (
                (F_X4_faulted (3) s13).bind fun q15 =>
                let v15 := q15.1
                let s15 := q15.2
                some (v15, s15)
              )
            )
          ) else (
            (F_X4_faulted (2) s10).bind fun q16 =>
            let v16 := q16.1
            let s16 := q16.2
            some (v16, s16)
          )
        ) else (
          (F_X4_faulted (1) s8).bind fun q17 =>
          let v17 := q17.1
          let s17 := q17.2
          some (v17, s17)
        )
      )
    ) else none
  ) else none
set_option maxRecDepth 50000 in
theorem m_X4_copy (p0 : Int32) (p1 : Int32) (p2 : Int32) (p3 : Int32) (p4 : Int32) (σ : PS) {v : Int32} {σ' : PS} (h : F_X4_copy p0 p1 p2 p3 p4 σ = some (v, σ')) : PR 95 [.ref 0, .int p0, .int p1, .int p2, .int p3, .int p4] σ (some (.int v)) σ' := by
  refine PR.enter (L := [some (.ref 0), some (.int p0), some (.int p1), some (.int p2), some (.int p3), some (.int p4), none, none, none]) uT_95 uD_95 rfl rfl ?_
  unfold F_X4_copy at h
  refine RU.blk (C' := (7, [some (.ref 0), some (.int p0), some (.int p1), some (.int p2), some (.int p3), some (.int p4), none, none, none], [.int p0, .ref 0], (sI σ 5 (0)))) 5 rfl ?_
  obtain ⟨⟨v3, s3⟩, hk, h⟩ := Option.bind_eq_some_iff.mp h
  dsimp only at h
  cases v3 with
  | none =>
    dsimp only at h
    refine RU.call (as := [.ref 0, .int p0]) (rest := []) (u := some .null) (C' := (10, [some (.ref 0), some (.int p0), some (.int p1), some (.int p2), some (.int p3), some (.int p4), none, none, none], [.null], s3)) rfl rfl (m_X4_sheetOf p0 (sI σ 5 (0)) hk) rfl rfl ?_
    refine RU.blk (C' := (14, [some (.ref 0), some (.int p0), some (.int p1), some (.int p2), some (.int p3), some (.int p4), some (.null), none, none], [.int p2, .ref 0], s3)) 3 rfl ?_
    obtain ⟨⟨v4, s4⟩, hk, h⟩ := Option.bind_eq_some_iff.mp h
    dsimp only at h
    cases v4 with
    | none =>
      dsimp only at h
      refine RU.call (as := [.ref 0, .int p2]) (rest := []) (u := some .null) (C' := (17, [some (.ref 0), some (.int p0), some (.int p1), some (.int p2), some (.int p3), some (.int p4), some (.null), none, none], [.null], s4)) rfl rfl (m_X4_sheetOf p2 s3 hk) rfl rfl ?_
      refine RU.blk (C' := (30, [some (.ref 0), some (.int p0), some (.int p1), some (.int p2), some (.int p3), some (.int p4), some (.null), some (.null), none], [.int (-1)], s4)) 4 rfl ?_
      obtain ⟨rfl, rfl⟩ := ret_inj h
      exact RU.ret rfl rfl rfl
    | some r54 =>
      dsimp only at h
      obtain ⟨hr54, h⟩ := cnd_n h
      refine RU.call (as := [.ref 0, .int p2]) (rest := []) (u := some (.ref r54)) (C' := (17, [some (.ref 0), some (.int p0), some (.int p1), some (.int p2), some (.int p3), some (.int p4), some (.null), none, none], [.ref r54], s4)) rfl rfl (m_X4_sheetOf p2 s3 hk) rfl rfl ?_
      refine RU.blk (C' := (30, [some (.ref 0), some (.int p0), some (.int p1), some (.int p2), some (.int p3), some (.int p4), some (.null), some (.ref r54), none], [.int (-1)], s4)) 4 rfl ?_
      obtain ⟨rfl, rfl⟩ := ret_inj h
      exact RU.ret rfl rfl rfl
  | some r53 =>
    dsimp only at h
    obtain ⟨hr53, h⟩ := cnd_n h
    refine RU.call (as := [.ref 0, .int p0]) (rest := []) (u := some (.ref r53)) (C' := (10, [some (.ref 0), some (.int p0), some (.int p1), some (.int p2), some (.int p3), some (.int p4), none, none, none], [.ref r53], s3)) rfl rfl (m_X4_sheetOf p0 (sI σ 5 (0)) hk) rfl rfl ?_
    refine RU.blk (C' := (14, [some (.ref 0), some (.int p0), some (.int p1), some (.int p2), some (.int p3), some (.int p4), some (.ref r53), none, none], [.int p2, .ref 0], s3)) 3 rfl ?_
    obtain ⟨⟨v5, s5⟩, hk, h⟩ := Option.bind_eq_some_iff.mp h
    dsimp only at h
    cases v5 with
    | none =>
      dsimp only at h
      refine RU.call (as := [.ref 0, .int p2]) (rest := []) (u := some .null) (C' := (17, [some (.ref 0), some (.int p0), some (.int p1), some (.int p2), some (.int p3), some (.int p4), some (.ref r53), none, none], [.null], s5)) rfl rfl (m_X4_sheetOf p2 s3 hk) rfl rfl ?_
      refine RU.blk (C' := (30, [some (.ref 0), some (.int p0), some (.int p1), some (.int p2), some (.int p3), some (.int p4), some (.ref r53), some (.null), none], [.int (-1)], s5)) 6 rfl ?_
      obtain ⟨rfl, rfl⟩ := ret_inj h
      exact RU.ret rfl rfl rfl
    | some r55 =>
      dsimp only at h
      obtain ⟨hr55, h⟩ := cnd_n h
      refine RU.call (as := [.ref 0, .int p2]) (rest := []) (u := some (.ref r55)) (C' := (17, [some (.ref 0), some (.int p0), some (.int p1), some (.int p2), some (.int p3), some (.int p4), some (.ref r53), none, none], [.ref r55], s5)) rfl rfl (m_X4_sheetOf p2 s3 hk) rfl rfl ?_
      refine RU.blk (C' := (33, [some (.ref 0), some (.int p0), some (.int p1), some (.int p2), some (.int p3), some (.int p4), some (.ref r53), some (.ref r55), none], [.ref r53], s5)) 6 rfl ?_
      obtain ⟨⟨v6, s6⟩, hk, h⟩ := Option.bind_eq_some_iff.mp h
      dsimp only at h
      refine RU.call (as := [.ref r53]) (rest := []) (u := some (.int v6)) (C' := (36, [some (.ref 0), some (.int p0), some (.int p1), some (.int p2), some (.int p3), some (.int p4), some (.ref r53), some (.ref r55), none], [.int v6], s6)) rfl (pargs_sh hr53 rfl rfl rfl rfl) (m_X3_hasNothing r53 hr53 s5 hk) rfl rfl ?_
      refine RU.blk (C' := (bif cNe v6 0 then 47 else 39, [some (.ref 0), some (.int p0), some (.int p1), some (.int p2), some (.int p3), some (.int p4), some (.ref r53), some (.ref r55), none], [], s6)) 1 rfl ?_
      rcases cnd_some h with ⟨hc, h⟩ | ⟨hc, h⟩
      · refine RU.tt hc ?_
        refine RU.blk (C' := (49, [some (.ref 0), some (.int p0), some (.int p1), some (.int p2), some (.int p3), some (.int p4), some (.ref r53), some (.ref r55), none], [.int (1), .ref 0], s6)) 2 rfl ?_
        obtain ⟨⟨v7, s7⟩, hk, h⟩ := Option.bind_eq_some_iff.mp h
        dsimp only at h
        refine RU.call (as := [.ref 0, .int (1)]) (rest := []) (u := some (.int v7)) (C' := (52, [some (.ref 0), some (.int p0), some (.int p1), some (.int p2), some (.int p3), some (.int p4), some (.ref r53), some (.ref r55), none], [.int v7], s7)) rfl rfl (m_X4_faulted (1) s6 hk) rfl rfl ?_
        obtain ⟨rfl, rfl⟩ := ret_inj h
        exact RU.ret rfl rfl rfl
      · refine RU.ff hc ?_
        refine RU.blk (C' := (41, [some (.ref 0), some (.int p0), some (.int p1), some (.int p2), some (.int p3), some (.int p4), some (.ref r53), some (.ref r55), none], [.ref r55], s6)) 1 rfl ?_
        obtain ⟨⟨v8, s8⟩, hk, h⟩ := Option.bind_eq_some_iff.mp h
        dsimp only at h
        refine RU.call (as := [.ref r55]) (rest := []) (u := some (.int v8)) (C' := (44, [some (.ref 0), some (.int p0), some (.int p1), some (.int p2), some (.int p3), some (.int p4), some (.ref r53), some (.ref r55), none], [.int v8], s8)) rfl (pargs_sh hr55 rfl rfl rfl rfl) (m_X3_hasNothing r55 hr55 s6 hk) rfl rfl ?_
        refine RU.blk (C' := (bif cEq v8 0 then 53 else 47, [some (.ref 0), some (.int p0), some (.int p1), some (.int p2), some (.int p3), some (.int p4), some (.ref r53), some (.ref r55), none], [], s8)) 1 rfl ?_
        rcases cnd_some h with ⟨hc, h⟩ | ⟨hc, h⟩
        · refine RU.tt hc ?_
          refine RU.blk (C' := (55, [some (.ref 0), some (.int p0), some (.int p1), some (.int p2), some (.int p3), some (.int p4), some (.ref r53), some (.ref r55), none], [.ref r53], s8)) 1 rfl ?_
          obtain ⟨⟨v9, s9⟩, hk, h⟩ := Option.bind_eq_some_iff.mp h
          dsimp only at h
          refine RU.call (as := [.ref r53]) (rest := []) (u := some (.int v9)) (C' := (58, [some (.ref 0), some (.int p0), some (.int p1), some (.int p2), some (.int p3), some (.int p4), some (.ref r53), some (.ref r55), none], [.int v9], s9)) rfl (pargs_sh hr53 rfl rfl rfl rfl) (m_X3_lane r53 hr53 s8 hk) rfl rfl ?_
          refine RU.blk (C' := (60, [some (.ref 0), some (.int p0), some (.int p1), some (.int p2), some (.int p3), some (.int p4), some (.ref r53), some (.ref r55), none], [.ref r55, .int v9], s9)) 1 rfl ?_
          obtain ⟨⟨v10, s10⟩, hk, h⟩ := Option.bind_eq_some_iff.mp h
          dsimp only at h
          refine RU.call (as := [.ref r55]) (rest := [.int v9]) (u := some (.int v10)) (C' := (63, [some (.ref 0), some (.int p0), some (.int p1), some (.int p2), some (.int p3), some (.int p4), some (.ref r53), some (.ref r55), none], [.int v10, .int v9], s10)) rfl (pargs_sh hr55 rfl rfl rfl rfl) (m_X3_lane r55 hr55 s9 hk) rfl rfl ?_
          refine RU.blk (C' := (bif cEq v9 v10 then 72 else 66, [some (.ref 0), some (.int p0), some (.int p1), some (.int p2), some (.int p3), some (.int p4), some (.ref r53), some (.ref r55), none], [], s10)) 1 rfl ?_
          rcases cnd_some h with ⟨hc, h⟩ | ⟨hc, h⟩
          · refine RU.tt hc ?_
            refine RU.blk (C' := (77, [some (.ref 0), some (.int p0), some (.int p1), some (.int p2), some (.int p3), some (.int p4), some (.ref r53), some (.ref r55), none], [.int p4, .int p1, .ref r53], s10)) 3 rfl ?_
            obtain ⟨⟨v11, s11⟩, hk, h⟩ := Option.bind_eq_some_iff.mp h
            dsimp only at h
            refine RU.call (as := [.ref r53, .int p1, .int p4]) (rest := []) (u := some (.int v11)) (C' := (80, [some (.ref 0), some (.int p0), some (.int p1), some (.int p2), some (.int p3), some (.int p4), some (.ref r53), some (.ref r55), none], [.int v11], s11)) rfl (pargs_sh hr53 rfl rfl rfl rfl) (m_X3_hasCells r53 hr53 p1 p4 s10 hk) rfl rfl ?_
            refine RU.blk (C' := (bif cEq v11 0 then 95 else 83, [some (.ref 0), some (.int p0), some (.int p1), some (.int p2), some (.int p3), some (.int p4), some (.ref r53), some (.ref r55), none], [], s11)) 1 rfl ?_
            rcases cnd_some h with ⟨hc, h⟩ | ⟨hc, h⟩
            · refine RU.tt hc ?_
              refine RU.blk (C' := (97, [some (.ref 0), some (.int p0), some (.int p1), some (.int p2), some (.int p3), some (.int p4), some (.ref r53), some (.ref r55), none], [.int (3), .ref 0], s11)) 2 rfl ?_
              obtain ⟨⟨v12, s12⟩, hk, h⟩ := Option.bind_eq_some_iff.mp h
              dsimp only at h
              refine RU.call (as := [.ref 0, .int (3)]) (rest := []) (u := some (.int v12)) (C' := (100, [some (.ref 0), some (.int p0), some (.int p1), some (.int p2), some (.int p3), some (.int p4), some (.ref r53), some (.ref r55), none], [.int v12], s12)) rfl rfl (m_X4_faulted (3) s11 hk) rfl rfl ?_
              obtain ⟨rfl, rfl⟩ := ret_inj h
              exact RU.ret rfl rfl rfl
            · refine RU.ff hc ?_
              refine RU.blk (C' := (89, [some (.ref 0), some (.int p0), some (.int p1), some (.int p2), some (.int p3), some (.int p4), some (.ref r53), some (.ref r55), none], [.int p4, .int p3, .ref r55], s11)) 3 rfl ?_
              obtain ⟨⟨v13, s13⟩, hk, h⟩ := Option.bind_eq_some_iff.mp h
              dsimp only at h
              refine RU.call (as := [.ref r55, .int p3, .int p4]) (rest := []) (u := some (.int v13)) (C' := (92, [some (.ref 0), some (.int p0), some (.int p1), some (.int p2), some (.int p3), some (.int p4), some (.ref r53), some (.ref r55), none], [.int v13], s13)) rfl (pargs_sh hr55 rfl rfl rfl rfl) (m_X3_hasCells r55 hr55 p3 p4 s11 hk) rfl rfl ?_
              refine RU.blk (C' := (bif cNe v13 0 then 101 else 95, [some (.ref 0), some (.int p0), some (.int p1), some (.int p2), some (.int p3), some (.int p4), some (.ref r53), some (.ref r55), none], [], s13)) 1 rfl ?_
              rcases cnd_some h with ⟨hc, h⟩ | ⟨hc, h⟩
              · refine RU.tt hc ?_
                refine RU.blk (C' := (110, [some (.ref 0), some (.int p0), some (.int p1), some (.int p2), some (.int p3), some (.int p4), some (.ref r53), some (.ref r55), none], [.int p4, .int p1, .ref r53, .ref 18], s13)) 5 rfl ?_
                obtain ⟨⟨v14, s14⟩, hk, h⟩ := Option.bind_eq_some_iff.mp h
                dsimp only at h
                refine RU.call (as := [.ref 18, .ref r53, .int p1, .int p4]) (rest := []) (u := none) (C' := (113, [some (.ref 0), some (.int p0), some (.int p1), some (.int p2), some (.int p3), some (.int p4), some (.ref r53), some (.ref r55), none], [], s14)) rfl rfl (m_X4_readInto 18 60 rfl r53 hr53 p1 p4 s13 hk) rfl rfl ?_
                refine RU.blk (C' := (116, [some (.ref 0), some (.int p0), some (.int p1), some (.int p2), some (.int p3), some (.int p4), some (.ref r53), some (.ref r55), some (.int (0))], [], s14)) 2 rfl ?_
                exact (ml_X4_copy fuelN) p3 p4 r55 hr55 (0) (some (.int p0)) (some (.int p1)) (some (.int p2)) (some (.ref r53)) _ _ _ h
              · refine RU.ff hc ?_
                refine RU.blk (C' := (97, [some (.ref 0), some (.int p0), some (.int p1), some (.int p2), some (.int p3), some (.int p4), some (.ref r53), some (.ref r55), none], [.int (3), .ref 0], s13)) 2 rfl ?_
                obtain ⟨⟨v15, s15⟩, hk, h⟩ := Option.bind_eq_some_iff.mp h
                dsimp only at h
                refine RU.call (as := [.ref 0, .int (3)]) (rest := []) (u := some (.int v15)) (C' := (100, [some (.ref 0), some (.int p0), some (.int p1), some (.int p2), some (.int p3), some (.int p4), some (.ref r53), some (.ref r55), none], [.int v15], s15)) rfl rfl (m_X4_faulted (3) s13 hk) rfl rfl ?_
                obtain ⟨rfl, rfl⟩ := ret_inj h
                exact RU.ret rfl rfl rfl
          · refine RU.ff hc ?_
            refine RU.blk (C' := (68, [some (.ref 0), some (.int p0), some (.int p1), some (.int p2), some (.int p3), some (.int p4), some (.ref r53), some (.ref r55), none], [.int (2), .ref 0], s10)) 2 rfl ?_
            obtain ⟨⟨v16, s16⟩, hk, h⟩ := Option.bind_eq_some_iff.mp h
            dsimp only at h
            refine RU.call (as := [.ref 0, .int (2)]) (rest := []) (u := some (.int v16)) (C' := (71, [some (.ref 0), some (.int p0), some (.int p1), some (.int p2), some (.int p3), some (.int p4), some (.ref r53), some (.ref r55), none], [.int v16], s16)) rfl rfl (m_X4_faulted (2) s10 hk) rfl rfl ?_
            obtain ⟨rfl, rfl⟩ := ret_inj h
            exact RU.ret rfl rfl rfl
        · refine RU.ff hc ?_
          refine RU.blk (C' := (49, [some (.ref 0), some (.int p0), some (.int p1), some (.int p2), some (.int p3), some (.int p4), some (.ref r53), some (.ref r55), none], [.int (1), .ref 0], s8)) 2 rfl ?_
          obtain ⟨⟨v17, s17⟩, hk, h⟩ := Option.bind_eq_some_iff.mp h
          dsimp only at h
          refine RU.call (as := [.ref 0, .int (1)]) (rest := []) (u := some (.int v17)) (C' := (52, [some (.ref 0), some (.int p0), some (.int p1), some (.int p2), some (.int p3), some (.int p4), some (.ref r53), some (.ref r55), none], [.int v17], s17)) rfl rfl (m_X4_faulted (1) s8 hk) rfl rfl ?_
          obtain ⟨rfl, rfl⟩ := ret_inj h
          exact RU.ret rfl rfl rfl
noncomputable def F_X4_leaveInTrace (p0 : Int32) (σ : PS) : Option (Unit × PS) :=
  some ((), (sI σ 4 (((31) * (gI σ 4)) + p0)))
set_option maxRecDepth 50000 in
theorem m_X4_leaveInTrace (p0 : Int32) (σ : PS) {v : Unit} {σ' : PS} (h : F_X4_leaveInTrace p0 σ = some (v, σ')) : PR 108 [.ref 0, .int p0] σ (none) σ' := by
  refine PR.enter (L := [some (.ref 0), some (.int p0)]) uT_108 uD_108 rfl rfl ?_
  unfold F_X4_leaveInTrace at h
  refine RU.blk (C' := (13, [some (.ref 0), some (.int p0)], [], (sI σ 4 (((31) * (gI σ 4)) + p0)))) 8 rfl ?_
  obtain ⟨rfl, rfl⟩ := ret_inj h
  exact RU.ret rfl rfl rfl
noncomputable def F_X4_plainBody (p0 : Int32) (σ : PS) : Option (Int32 × PS) :=
  (F_X4_leaveInTrace (1) σ).bind fun q1 =>
  let s1 := q1.2
  (F_X1_shortOf p0 s1).bind fun q2 =>
  let v2 := q2.1
  let s2 := q2.2
  some (v2, s2)
set_option maxRecDepth 50000 in
theorem m_X4_plainBody (p0 : Int32) (σ : PS) {v : Int32} {σ' : PS} (h : F_X4_plainBody p0 σ = some (v, σ')) : PR 109 [.ref 0, .int p0] σ (some (.int v)) σ' := by
  refine PR.enter (L := [some (.ref 0), some (.int p0)]) uT_109 uD_109 rfl rfl ?_
  unfold F_X4_plainBody at h
  refine RU.blk (C' := (2, [some (.ref 0), some (.int p0)], [.int (1), .ref 0], σ)) 2 rfl ?_
  obtain ⟨⟨v1, s1⟩, hk, h⟩ := Option.bind_eq_some_iff.mp h
  dsimp only at h
  refine RU.call (as := [.ref 0, .int (1)]) (rest := []) (u := none) (C' := (5, [some (.ref 0), some (.int p0)], [], s1)) rfl rfl (m_X4_leaveInTrace (1) σ hk) rfl rfl ?_
  refine RU.blk (C' := (10, [some (.ref 0), some (.int p0)], [.int p0, .ref 10], s1)) 3 rfl ?_
  obtain ⟨⟨v2, s2⟩, hk, h⟩ := Option.bind_eq_some_iff.mp h
  dsimp only at h
  refine RU.call (as := [.ref 10, .int p0]) (rest := []) (u := some (.int v2)) (C' := (13, [some (.ref 0), some (.int p0)], [.int v2], s2)) rfl rfl (m_X1_shortOf p0 s1 hk) rfl rfl ?_
  obtain ⟨rfl, rfl⟩ := ret_inj h
  exact RU.ret rfl rfl rfl
noncomputable def F_X4_deepBody (p0 : Int32) (σ : PS) : Option (Int32 × PS) :=
  (F_X4_leaveInTrace (2) σ).bind fun q1 =>
  let s1 := q1.2
  (F_X4_plainBody p0 s1).bind fun q2 =>
  let v2 := q2.1
  let s2 := q2.2
  some ((v2 + (100)), s2)
set_option maxRecDepth 50000 in
theorem m_X4_deepBody (p0 : Int32) (σ : PS) {v : Int32} {σ' : PS} (h : F_X4_deepBody p0 σ = some (v, σ')) : PR 110 [.ref 0, .int p0] σ (some (.int v)) σ' := by
  refine PR.enter (L := [some (.ref 0), some (.int p0)]) uT_110 uD_110 rfl rfl ?_
  unfold F_X4_deepBody at h
  refine RU.blk (C' := (2, [some (.ref 0), some (.int p0)], [.int (2), .ref 0], σ)) 2 rfl ?_
  obtain ⟨⟨v1, s1⟩, hk, h⟩ := Option.bind_eq_some_iff.mp h
  dsimp only at h
  refine RU.call (as := [.ref 0, .int (2)]) (rest := []) (u := none) (C' := (5, [some (.ref 0), some (.int p0)], [], s1)) rfl rfl (m_X4_leaveInTrace (2) σ hk) rfl rfl ?_
  refine RU.blk (C' := (7, [some (.ref 0), some (.int p0)], [.int p0, .ref 0], s1)) 2 rfl ?_
  obtain ⟨⟨v2, s2⟩, hk, h⟩ := Option.bind_eq_some_iff.mp h
  dsimp only at h
  refine RU.call (as := [.ref 0, .int p0]) (rest := []) (u := some (.int v2)) (C' := (10, [some (.ref 0), some (.int p0)], [.int v2], s2)) rfl rfl (m_X4_plainBody p0 s1 hk) rfl rfl ?_
  refine RU.blk (C' := (13, [some (.ref 0), some (.int p0)], [.int (v2 + (100))], s2)) 2 rfl ?_
  obtain ⟨rfl, rfl⟩ := ret_inj h
  exact RU.ret rfl rfl rfl
noncomputable def F_X4_grandBody (p0 : Int32) (σ : PS) : Option (Int32 × PS) :=
  (F_X4_leaveInTrace (3) σ).bind fun q1 =>
  let s1 := q1.2
  (F_X4_deepBody p0 s1).bind fun q2 =>
  let v2 := q2.1
  let s2 := q2.2
  (F_X4_plainBody p0 s2).bind fun q3 =>
  let v3 := q3.1
  let s3 := q3.2
  some ((v2 + v3), s3)
set_option maxRecDepth 50000 in
theorem m_X4_grandBody (p0 : Int32) (σ : PS) {v : Int32} {σ' : PS} (h : F_X4_grandBody p0 σ = some (v, σ')) : PR 111 [.ref 0, .int p0] σ (some (.int v)) σ' := by
  refine PR.enter (L := [some (.ref 0), some (.int p0), none]) uT_111 uD_111 rfl rfl ?_
  unfold F_X4_grandBody at h
  refine RU.blk (C' := (2, [some (.ref 0), some (.int p0), none], [.int (3), .ref 0], σ)) 2 rfl ?_
  obtain ⟨⟨v1, s1⟩, hk, h⟩ := Option.bind_eq_some_iff.mp h
  dsimp only at h
  refine RU.call (as := [.ref 0, .int (3)]) (rest := []) (u := none) (C' := (5, [some (.ref 0), some (.int p0), none], [], s1)) rfl rfl (m_X4_leaveInTrace (3) σ hk) rfl rfl ?_
  refine RU.blk (C' := (7, [some (.ref 0), some (.int p0), none], [.int p0, .ref 0], s1)) 2 rfl ?_
  obtain ⟨⟨v2, s2⟩, hk, h⟩ := Option.bind_eq_some_iff.mp h
  dsimp only at h
  refine RU.call (as := [.ref 0, .int p0]) (rest := []) (u := some (.int v2)) (C' := (10, [some (.ref 0), some (.int p0), none], [.int v2], s2)) rfl rfl (m_X4_deepBody p0 s1 hk) rfl rfl ?_
  refine RU.blk (C' := (14, [some (.ref 0), some (.int p0), some (.int v2)], [.int p0, .ref 0, .int v2], s2)) 4 rfl ?_
  obtain ⟨⟨v3, s3⟩, hk, h⟩ := Option.bind_eq_some_iff.mp h
  dsimp only at h
  refine RU.call (as := [.ref 0, .int p0]) (rest := [.int v2]) (u := some (.int v3)) (C' := (17, [some (.ref 0), some (.int p0), some (.int v2)], [.int v3, .int v2], s3)) rfl rfl (m_X4_plainBody p0 s2 hk) rfl rfl ?_
  refine RU.blk (C' := (18, [some (.ref 0), some (.int p0), some (.int v2)], [.int (v2 + v3)], s3)) 1 rfl ?_
  obtain ⟨rfl, rfl⟩ := ret_inj h
  exact RU.ret rfl rfl rfl
noncomputable def F_X4_tell (p0 : Int32) (σ : PS) : Option (Int32 × PS) :=
  (F_X1_isLooker p0 σ).bind fun q1 =>
  let v1 := q1.1
  let s1 := q1.2
  bif cNe v1 0 then (
    (F_X1_kindOf p0 s1).bind fun q2 =>
    let v2 := q2.1
    let s2 := q2.2
    bif decide (v2 = (1)) then (
      (F_X4_deepBody p0 s2).bind fun q3 =>
      let v3 := q3.1
      let s3 := q3.2
      some (v3, s3)
    ) else (
      bif decide (v2 = (2)) then (
        (F_X4_grandBody p0 s2).bind fun q4 =>
        let v4 := q4.1
        let s4 := q4.2
        some (v4, s4)
      ) else (
        (F_X4_plainBody p0 s2).bind fun q5 =>
        let v5 := q5.1
        let s5 := q5.2
        some (v5, s5)
      )
    )
  ) else (
    some ((-1), s1)
  )
set_option maxRecDepth 50000 in
theorem m_X4_tell (p0 : Int32) (σ : PS) {v : Int32} {σ' : PS} (h : F_X4_tell p0 σ = some (v, σ')) : PR 96 [.ref 0, .int p0] σ (some (.int v)) σ' := by
  refine PR.enter (L := [some (.ref 0), some (.int p0)]) uT_96 uD_96 rfl rfl ?_
  unfold F_X4_tell at h
  refine RU.blk (C' := (5, [some (.ref 0), some (.int p0)], [.int p0, .ref 10], σ)) 3 rfl ?_
  obtain ⟨⟨v1, s1⟩, hk, h⟩ := Option.bind_eq_some_iff.mp h
  dsimp only at h
  refine RU.call (as := [.ref 10, .int p0]) (rest := []) (u := some (.int v1)) (C' := (8, [some (.ref 0), some (.int p0)], [.int v1], s1)) rfl rfl (m_X1_isLooker p0 σ hk) rfl rfl ?_
  refine RU.blk (C' := (bif cNe v1 0 then 13 else 11, [some (.ref 0), some (.int p0)], [], s1)) 1 rfl ?_
  rcases cnd_some h with ⟨hc, h⟩ | ⟨hc, h⟩
  · refine RU.tt hc ?_
    refine RU.blk (C' := (18, [some (.ref 0), some (.int p0)], [.int p0, .ref 10], s1)) 3 rfl ?_
    obtain ⟨⟨v2, s2⟩, hk, h⟩ := Option.bind_eq_some_iff.mp h
    dsimp only at h
    refine RU.call (as := [.ref 10, .int p0]) (rest := []) (u := some (.int v2)) (C' := (21, [some (.ref 0), some (.int p0)], [.int v2], s2)) rfl rfl (m_X1_kindOf p0 s1 hk) rfl rfl ?_
    refine RU.blk (C' := (bif decide (v2 = (1)) then 54 else (bif decide (v2 = (2)) then 48 else 60), [some (.ref 0), some (.int p0)], [], s2)) 1 rfl ?_
    rcases cnd_some h with ⟨hc, h⟩ | ⟨hc, h⟩
    · refine RU.tt hc ?_
      refine RU.blk (C' := (56, [some (.ref 0), some (.int p0)], [.int p0, .ref 0], s2)) 2 rfl ?_
      obtain ⟨⟨v3, s3⟩, hk, h⟩ := Option.bind_eq_some_iff.mp h
      dsimp only at h
      refine RU.call (as := [.ref 0, .int p0]) (rest := []) (u := some (.int v3)) (C' := (59, [some (.ref 0), some (.int p0)], [.int v3], s3)) rfl rfl (m_X4_deepBody p0 s2 hk) rfl rfl ?_
      obtain ⟨rfl, rfl⟩ := ret_inj h
      exact RU.ret rfl rfl rfl
    · refine RU.ff hc ?_
      rcases cnd_some h with ⟨hc, h⟩ | ⟨hc, h⟩
      · refine RU.tt hc ?_
        refine RU.blk (C' := (50, [some (.ref 0), some (.int p0)], [.int p0, .ref 0], s2)) 2 rfl ?_
        obtain ⟨⟨v4, s4⟩, hk, h⟩ := Option.bind_eq_some_iff.mp h
        dsimp only at h
        refine RU.call (as := [.ref 0, .int p0]) (rest := []) (u := some (.int v4)) (C' := (53, [some (.ref 0), some (.int p0)], [.int v4], s4)) rfl rfl (m_X4_grandBody p0 s2 hk) rfl rfl ?_
        obtain ⟨rfl, rfl⟩ := ret_inj h
        exact RU.ret rfl rfl rfl
      · refine RU.ff hc ?_
        refine RU.blk (C' := (62, [some (.ref 0), some (.int p0)], [.int p0, .ref 0], s2)) 2 rfl ?_
        obtain ⟨⟨v5, s5⟩, hk, h⟩ := Option.bind_eq_some_iff.mp h
        dsimp only at h
        refine RU.call (as := [.ref 0, .int p0]) (rest := []) (u := some (.int v5)) (C' := (65, [some (.ref 0), some (.int p0)], [.int v5], s5)) rfl rfl (m_X4_plainBody p0 s2 hk) rfl rfl ?_
        obtain ⟨rfl, rfl⟩ := ret_inj h
        exact RU.ret rfl rfl rfl
  · refine RU.ff hc ?_
    refine RU.blk (C' := (12, [some (.ref 0), some (.int p0)], [.int (-1)], s1)) 1 rfl ?_
    obtain ⟨rfl, rfl⟩ := ret_inj h
    exact RU.ret rfl rfl rfl
noncomputable def F_X4_lentGreetingBody (p0 : Int32) (σ : PS) : Option (Int32 × PS) :=
  (F_X4_leaveInTrace (4) σ).bind fun q1 =>
  let s1 := q1.2
  some (p0, s1)
set_option maxRecDepth 50000 in
theorem m_X4_lentGreetingBody (p0 : Int32) (σ : PS) {v : Int32} {σ' : PS} (h : F_X4_lentGreetingBody p0 σ = some (v, σ')) : PR 112 [.ref 0, .int p0] σ (some (.int v)) σ' := by
  refine PR.enter (L := [some (.ref 0), some (.int p0)]) uT_112 uD_112 rfl rfl ?_
  unfold F_X4_lentGreetingBody at h
  refine RU.blk (C' := (2, [some (.ref 0), some (.int p0)], [.int (4), .ref 0], σ)) 2 rfl ?_
  obtain ⟨⟨v1, s1⟩, hk, h⟩ := Option.bind_eq_some_iff.mp h
  dsimp only at h
  refine RU.call (as := [.ref 0, .int (4)]) (rest := []) (u := none) (C' := (5, [some (.ref 0), some (.int p0)], [], s1)) rfl rfl (m_X4_leaveInTrace (4) σ hk) rfl rfl ?_
  refine RU.blk (C' := (6, [some (.ref 0), some (.int p0)], [.int p0], s1)) 1 rfl ?_
  obtain ⟨rfl, rfl⟩ := ret_inj h
  exact RU.ret rfl rfl rfl
noncomputable def F_X4_ownGreetingBody  (σ : PS) : Option (Int32 × PS) :=
  (F_X4_leaveInTrace (5) σ).bind fun q1 =>
  let s1 := q1.2
  some ((90), s1)
set_option maxRecDepth 50000 in
theorem m_X4_ownGreetingBody  (σ : PS) {v : Int32} {σ' : PS} (h : F_X4_ownGreetingBody σ = some (v, σ')) : PR 113 [.ref 0] σ (some (.int v)) σ' := by
  refine PR.enter (L := [some (.ref 0)]) uT_113 uD_113 rfl rfl ?_
  unfold F_X4_ownGreetingBody at h
  refine RU.blk (C' := (2, [some (.ref 0)], [.int (5), .ref 0], σ)) 2 rfl ?_
  obtain ⟨⟨v1, s1⟩, hk, h⟩ := Option.bind_eq_some_iff.mp h
  dsimp only at h
  refine RU.call (as := [.ref 0, .int (5)]) (rest := []) (u := none) (C' := (5, [some (.ref 0)], [], s1)) rfl rfl (m_X4_leaveInTrace (5) σ hk) rfl rfl ?_
  refine RU.blk (C' := (7, [some (.ref 0)], [.int (90)], s1)) 1 rfl ?_
  obtain ⟨rfl, rfl⟩ := ret_inj h
  exact RU.ret rfl rfl rfl
noncomputable def F_X4_greet (p0 : Int32) (σ : PS) : Option (Int32 × PS) :=
  (F_X1_isLooker p0 σ).bind fun q1 =>
  let v1 := q1.1
  let s1 := q1.2
  bif cNe v1 0 then (
    (F_X1_kindOf p0 s1).bind fun q2 =>
    let v2 := q2.1
    let s2 := q2.2
    bif cNe v2 (2) then (
      (F_X4_lentGreetingBody p0 s2).bind fun q3 =>
      let v3 := q3.1
      let s3 := q3.2
      some (v3, s3)
    ) else (
      (F_X4_ownGreetingBody s2).bind fun q4 =>
      let v4 := q4.1
      let s4 := q4.2
      some (v4, s4)
    )
  ) else (
    some ((-1), s1)
  )
set_option maxRecDepth 50000 in
theorem m_X4_greet (p0 : Int32) (σ : PS) {v : Int32} {σ' : PS} (h : F_X4_greet p0 σ = some (v, σ')) : PR 97 [.ref 0, .int p0] σ (some (.int v)) σ' := by
  refine PR.enter (L := [some (.ref 0), some (.int p0)]) uT_97 uD_97 rfl rfl ?_
  unfold F_X4_greet at h
  refine RU.blk (C' := (5, [some (.ref 0), some (.int p0)], [.int p0, .ref 10], σ)) 3 rfl ?_
  obtain ⟨⟨v1, s1⟩, hk, h⟩ := Option.bind_eq_some_iff.mp h
  dsimp only at h
  refine RU.call (as := [.ref 10, .int p0]) (rest := []) (u := some (.int v1)) (C' := (8, [some (.ref 0), some (.int p0)], [.int v1], s1)) rfl rfl (m_X1_isLooker p0 σ hk) rfl rfl ?_
  refine RU.blk (C' := (bif cNe v1 0 then 13 else 11, [some (.ref 0), some (.int p0)], [], s1)) 1 rfl ?_
  rcases cnd_some h with ⟨hc, h⟩ | ⟨hc, h⟩
  · refine RU.tt hc ?_
    refine RU.blk (C' := (18, [some (.ref 0), some (.int p0)], [.int p0, .ref 10], s1)) 3 rfl ?_
    obtain ⟨⟨v2, s2⟩, hk, h⟩ := Option.bind_eq_some_iff.mp h
    dsimp only at h
    refine RU.call (as := [.ref 10, .int p0]) (rest := []) (u := some (.int v2)) (C' := (21, [some (.ref 0), some (.int p0)], [.int v2], s2)) rfl rfl (m_X1_kindOf p0 s1 hk) rfl rfl ?_
    refine RU.blk (C' := (bif cNe v2 (2) then 32 else 25, [some (.ref 0), some (.int p0)], [], s2)) 2 rfl ?_
    rcases cnd_some h with ⟨hc, h⟩ | ⟨hc, h⟩
    · refine RU.tt hc ?_
      refine RU.blk (C' := (34, [some (.ref 0), some (.int p0)], [.int p0, .ref 0], s2)) 2 rfl ?_
      obtain ⟨⟨v3, s3⟩, hk, h⟩ := Option.bind_eq_some_iff.mp h
      dsimp only at h
      refine RU.call (as := [.ref 0, .int p0]) (rest := []) (u := some (.int v3)) (C' := (37, [some (.ref 0), some (.int p0)], [.int v3], s3)) rfl rfl (m_X4_lentGreetingBody p0 s2 hk) rfl rfl ?_
      obtain ⟨rfl, rfl⟩ := ret_inj h
      exact RU.ret rfl rfl rfl
    · refine RU.ff hc ?_
      refine RU.blk (C' := (26, [some (.ref 0), some (.int p0)], [.ref 0], s2)) 1 rfl ?_
      obtain ⟨⟨v4, s4⟩, hk, h⟩ := Option.bind_eq_some_iff.mp h
      dsimp only at h
      refine RU.call (as := [.ref 0]) (rest := []) (u := some (.int v4)) (C' := (29, [some (.ref 0), some (.int p0)], [.int v4], s4)) rfl rfl (m_X4_ownGreetingBody s2 hk) rfl rfl ?_
      refine RU.blk (C' := (37, [some (.ref 0), some (.int p0)], [.int v4], s4)) 1 rfl ?_
      obtain ⟨rfl, rfl⟩ := ret_inj h
      exact RU.ret rfl rfl rfl
  · refine RU.ff hc ?_
    refine RU.blk (C' := (12, [some (.ref 0), some (.int p0)], [.int (-1)], s1)) 1 rfl ?_
    obtain ⟨rfl, rfl⟩ := ret_inj h
    exact RU.ret rfl rfl rfl
noncomputable def F_X4_as (p0 : Int32) (p1 : Int32) (σ : PS) : Option (Int32 × PS) :=
  (F_X1_isLooker p0 (sI σ 5 (0))).bind fun q1 =>
  let v1 := q1.1
  let s1 := q1.2
  bif cNe v1 0 then (
    (F_X4_within p1 (0) (2) s1).bind fun q2 =>
    let v2 := q2.1
    let s2 := q2.2
    bif cNe v2 0 then (
      (F_X1_kindOf p0 s2).bind fun q3 =>
      let v3 := q3.1
      let s3 := q3.2
      bif cLt v3 p1 then (
        (F_X4_faulted (2) s3).bind fun q4 =>
        let v4 := q4.1
        let s4 := q4.2
        some (v4, s4)
      ) else (
        some ((1), s3)
      )
    ) else (
      some ((-2), s2)
    )
  ) else (
    some ((-1), s1)
  )
set_option maxRecDepth 50000 in
theorem m_X4_as (p0 : Int32) (p1 : Int32) (σ : PS) {v : Int32} {σ' : PS} (h : F_X4_as p0 p1 σ = some (v, σ')) : PR 98 [.ref 0, .int p0, .int p1] σ (some (.int v)) σ' := by
  refine PR.enter (L := [some (.ref 0), some (.int p0), some (.int p1)]) uT_98 uD_98 rfl rfl ?_
  unfold F_X4_as at h
  refine RU.blk (C' := (10, [some (.ref 0), some (.int p0), some (.int p1)], [.int p0, .ref 10], (sI σ 5 (0)))) 6 rfl ?_
  obtain ⟨⟨v1, s1⟩, hk, h⟩ := Option.bind_eq_some_iff.mp h
  dsimp only at h
  refine RU.call (as := [.ref 10, .int p0]) (rest := []) (u := some (.int v1)) (C' := (13, [some (.ref 0), some (.int p0), some (.int p1)], [.int v1], s1)) rfl rfl (m_X1_isLooker p0 (sI σ 5 (0)) hk) rfl rfl ?_
  refine RU.blk (C' := (bif cNe v1 0 then 18 else 16, [some (.ref 0), some (.int p0), some (.int p1)], [], s1)) 1 rfl ?_
  rcases cnd_some h with ⟨hc, h⟩ | ⟨hc, h⟩
  · refine RU.tt hc ?_
    refine RU.blk (C' := (21, [some (.ref 0), some (.int p0), some (.int p1)], [.int (2), .int (0), .int p1], s1)) 3 rfl ?_
    obtain ⟨⟨v2, s2⟩, hk, h⟩ := Option.bind_eq_some_iff.mp h
    dsimp only at h
    refine RU.call (as := [.int p1, .int (0), .int (2)]) (rest := []) (u := some (.int v2)) (C' := (24, [some (.ref 0), some (.int p0), some (.int p1)], [.int v2], s2)) rfl rfl (m_X4_within p1 (0) (2) s1 hk) rfl rfl ?_
    refine RU.blk (C' := (bif cNe v2 0 then 30 else 27, [some (.ref 0), some (.int p0), some (.int p1)], [], s2)) 1 rfl ?_
    rcases cnd_some h with ⟨hc, h⟩ | ⟨hc, h⟩
    · refine RU.tt hc ?_
      refine RU.blk (C' := (35, [some (.ref 0), some (.int p0), some (.int p1)], [.int p0, .ref 10], s2)) 3 rfl ?_
      obtain ⟨⟨v3, s3⟩, hk, h⟩ := Option.bind_eq_some_iff.mp h
      dsimp only at h
      refine RU.call (as := [.ref 10, .int p0]) (rest := []) (u := some (.int v3)) (C' := (38, [some (.ref 0), some (.int p0), some (.int p1)], [.int v3], s3)) rfl rfl (m_X1_kindOf p0 s2 hk) rfl rfl ?_
      refine RU.blk (C' := (bif cLt v3 p1 then 46 else 42, [some (.ref 0), some (.int p0), some (.int p1)], [], s3)) 2 rfl ?_
      rcases cnd_some h with ⟨hc, h⟩ | ⟨hc, h⟩
      · refine RU.tt hc ?_
        refine RU.blk (C' := (48, [some (.ref 0), some (.int p0), some (.int p1)], [.int (2), .ref 0], s3)) 2 rfl ?_
        obtain ⟨⟨v4, s4⟩, hk, h⟩ := Option.bind_eq_some_iff.mp h
        dsimp only at h
        refine RU.call (as := [.ref 0, .int (2)]) (rest := []) (u := some (.int v4)) (C' := (51, [some (.ref 0), some (.int p0), some (.int p1)], [.int v4], s4)) rfl rfl (m_X4_faulted (2) s3 hk) rfl rfl ?_
        obtain ⟨rfl, rfl⟩ := ret_inj h
        exact RU.ret rfl rfl rfl
      · refine RU.ff hc ?_
        refine RU.blk (C' := (51, [some (.ref 0), some (.int p0), some (.int p1)], [.int (1)], s3)) 2 rfl ?_
        obtain ⟨rfl, rfl⟩ := ret_inj h
        exact RU.ret rfl rfl rfl
    · refine RU.ff hc ?_
      refine RU.blk (C' := (29, [some (.ref 0), some (.int p0), some (.int p1)], [.int (-2)], s2)) 1 rfl ?_
      obtain ⟨rfl, rfl⟩ := ret_inj h
      exact RU.ret rfl rfl rfl
  · refine RU.ff hc ?_
    refine RU.blk (C' := (17, [some (.ref 0), some (.int p0), some (.int p1)], [.int (-1)], s1)) 1 rfl ?_
    obtain ⟨rfl, rfl⟩ := ret_inj h
    exact RU.ret rfl rfl rfl
