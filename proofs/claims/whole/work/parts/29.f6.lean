noncomputable def F_X5_noSheet (p0 : Int32) (σ : PS) : Option (Int32 × PS) :=
  (F_X5_in (Int32.toInt64 p0) 0 (3) σ).bind fun q1 =>
  let v1 := q1.1
  let s1 := q1.2
  bif cNe v1 0 then (
    some ((0), s1)
  ) else (
    some ((1), s1)
  )
set_option maxRecDepth 50000 in
theorem m_X5_noSheet (p0 : Int32) (σ : PS) {v : Int32} {σ' : PS} (h : F_X5_noSheet p0 σ = some (v, σ')) : PR 179 [.int p0] σ (some (.int v)) σ' := by
  refine PR.enter (L := [some (.int p0)]) uT_179 uD_179 rfl rfl ?_
  unfold F_X5_noSheet at h
  refine RU.blk (C' := (6, [some (.int p0)], [.long (3), .long 0, .long (Int32.toInt64 p0)], σ)) 4 rfl ?_
  obtain ⟨⟨v1, s1⟩, hk, h⟩ := Option.bind_eq_some_iff.mp h
  dsimp only at h
  refine RU.call (as := [.long (Int32.toInt64 p0), .long 0, .long (3)]) (rest := []) (u := some (.int v1)) (C' := (9, [some (.int p0)], [.int v1], s1)) rfl rfl (m_X5_in (Int32.toInt64 p0) 0 (3) σ hk) rfl rfl ?_
  refine RU.blk (C' := (bif cNe v1 0 then 16 else 12, [some (.int p0)], [], s1)) 1 rfl ?_
  rcases cnd_some h with ⟨hc, h⟩ | ⟨hc, h⟩
  · refine RU.tt hc ?_
    refine RU.blk (C' := (17, [some (.int p0)], [.int (0)], s1)) 1 rfl ?_
    obtain ⟨rfl, rfl⟩ := ret_inj h
    exact RU.ret rfl rfl rfl
  · refine RU.ff hc ?_
    refine RU.blk (C' := (17, [some (.int p0)], [.int (1)], s1)) 2 rfl ?_
    obtain ⟨rfl, rfl⟩ := ret_inj h
    exact RU.ret rfl rfl rfl
noncomputable def L_X5_sea  : Nat → Nat → Int32 → PS → Option (Int32 × PS)
  | 0, _, _, _ => none
  | n + 1, hd, x6, σ => 
    bif Nat.beq hd 122 then (
      bif cGe x6 ((gI σ 1217) * (gI σ 1218)) then (
        L_X5_sea n  159 (0) σ
      ) else (
        bif vin x6 36 then
        bif vin x6 36 then
        L_X5_sea n  122 (x6 + (1)) (sA σ 20 (Int32.toNatClampNeg x6) (gA σ 23 (Int32.toNatClampNeg x6)))
        else none
        else none
      )
    ) else
    bif Nat.beq hd 159 then (
      bif cGe x6 (gI σ 1219) then (
        (F_X5_over (sI (sI σ 1222 (0)) 1223 (0))).bind fun q1 =>
        let v1 := q1.1
        let s1 := q1.2
        (F_X5_refused (gI (sI (sL s1 1224 v1) 1241 (0)) 1219) (sI (sL s1 1224 v1) 1241 (0))).bind fun q2 =>
        let v2 := q2.1
        let s2 := q2.2
        some (v2, s2)
      ) else (
        bif vin x6 4 then
        bif vin x6 4 then
        bif vin x6 4 then
        bif vin x6 4 then
        L_X5_sea n  159 (x6 + (1)) (sA (sA σ 21 (Int32.toNatClampNeg x6) (gA σ 24 (Int32.toNatClampNeg x6))) 22 (Int32.toNatClampNeg x6) (gA (sA σ 21 (Int32.toNatClampNeg x6) (gA σ 24 (Int32.toNatClampNeg x6))) 25 (Int32.toNatClampNeg x6)))
        else none
        else none
        else none
        else none
      )
    ) else
    none
set_option maxRecDepth 50000 in
theorem ml_X5_sea  (n : Nat) : (∀ (x6 : Int32) (u1 : Option Value) (u2 : Option Value) (u3 : Option Value) (u4 : Option Value) (u5 : Option Value) (σ : PS) (v : Int32) (σ' : PS), L_X5_sea n 122 x6 σ = some (v, σ') → RU ubX5_sea 4 99 (122, [some (.ref 19), u1, u2, u3, u4, u5, some (.int x6)], [], σ) (some (.int v)) σ') ∧ (∀ (x6 : Int32) (u1 : Option Value) (u2 : Option Value) (u3 : Option Value) (u4 : Option Value) (u5 : Option Value) (σ : PS) (v : Int32) (σ' : PS), L_X5_sea n 159 x6 σ = some (v, σ') → RU ubX5_sea 4 99 (159, [some (.ref 19), u1, u2, u3, u4, u5, some (.int x6)], [], σ) (some (.int v)) σ') := by
  induction n with
  | zero =>
    refine ⟨?_, ?_⟩
    · intro x6 u1 u2 u3 u4 u5 σ v σ' h; exact absurd (show (none : Option (Int32 × PS)) = some (v, σ') from h) (by simp)
    · intro x6 u1 u2 u3 u4 u5 σ v σ' h; exact absurd (show (none : Option (Int32 × PS)) = some (v, σ') from h) (by simp)
  | succ n ih =>
    refine ⟨?_, ?_⟩
    · intro x6 u1 u2 u3 u4 u5 σ v σ' h
      rw [L_X5_sea] at h
      rcases cnd_some h with ⟨hc, h⟩ | ⟨hc, h⟩
      rotate_left
      · exact absurd hc (by decide)
      refine RU.blk (C' := (bif cGe x6 ((gI σ 1217) * (gI σ 1218)) then 156 else 136, [some (.ref 19), none, none, none, none, none, some (.int x6)], [], σ)) 7 rfl ?_
      rcases cnd_some h with ⟨hc, h⟩ | ⟨hc, h⟩
      · refine RU.tt hc ?_
        refine RU.blk (C' := (159, [some (.ref 19), none, none, none, none, none, some (.int (0))], [], σ)) 2 rfl ?_
        exact ih.2 (0) none none none none none _ _ _ h
      · refine RU.ff hc ?_
        refine RU.blk (C' := (148, [some (.ref 19), none, none, none, none, none, some (.int x6)], [.int x6, .ref 23, .int x6, .ref 20], σ)) 6 rfl ?_
        obtain ⟨hv, h⟩ := cnd_n h
        refine RU.iald (N := 36) rfl rfl hv ?_
        obtain ⟨hv, h⟩ := cnd_n h
        refine RU.iast (N := 36) rfl rfl hv ?_
        refine RU.blk (C' := (122, [some (.ref 19), none, none, none, none, none, some (.int (x6 + (1)))], [], (sA σ 20 (Int32.toNatClampNeg x6) (gA σ 23 (Int32.toNatClampNeg x6))))) 2 rfl ?_
        exact ih.1 (x6 + (1)) none none none none none _ _ _ h
    · intro x6 u1 u2 u3 u4 u5 σ v σ' h
      rw [L_X5_sea] at h
      rcases cnd_some h with ⟨hc, h⟩ | ⟨hc, h⟩
      · exact absurd hc (by decide)
      rcases cnd_some h with ⟨hc, h⟩ | ⟨hc, h⟩
      rotate_left
      · exact absurd hc (by decide)
      refine RU.blk (C' := (bif cGe x6 (gI σ 1219) then 202 else 168, [some (.ref 19), none, none, none, none, none, some (.int x6)], [], σ)) 4 rfl ?_
      rcases cnd_some h with ⟨hc, h⟩ | ⟨hc, h⟩
      · refine RU.tt hc ?_
        refine RU.blk (C' := (214, [some (.ref 19), none, none, none, none, none, some (.int x6)], [.ref 19, .ref 19], (sI (sI σ 1222 (0)) 1223 (0)))) 8 rfl ?_
        obtain ⟨⟨v1, s1⟩, hk, h⟩ := Option.bind_eq_some_iff.mp h
        dsimp only at h
        refine RU.call (as := [.ref 19]) (rest := [.ref 19]) (u := some (.long v1)) (C' := (217, [some (.ref 19), none, none, none, none, none, some (.int x6)], [.long v1, .ref 19], s1)) rfl rfl (m_X5_over (sI (sI σ 1222 (0)) 1223 (0)) hk) rfl rfl ?_
        refine RU.blk (C' := (230, [some (.ref 19), none, none, none, none, none, some (.int x6)], [.int (gI (sI (sL s1 1224 v1) 1241 (0)) 1219), .ref 19], (sI (sL s1 1224 v1) 1241 (0)))) 7 rfl ?_
        obtain ⟨⟨v2, s2⟩, hk, h⟩ := Option.bind_eq_some_iff.mp h
        dsimp only at h
        refine RU.call (as := [.ref 19, .int (gI (sI (sL s1 1224 v1) 1241 (0)) 1219)]) (rest := []) (u := some (.int v2)) (C' := (233, [some (.ref 19), none, none, none, none, none, some (.int x6)], [.int v2], s2)) rfl rfl (m_X5_refused (gI (sI (sL s1 1224 v1) 1241 (0)) 1219) (sI (sL s1 1224 v1) 1241 (0)) hk) rfl rfl ?_
        obtain ⟨rfl, rfl⟩ := ret_inj h
        exact RU.ret rfl rfl rfl
      · refine RU.ff hc ?_
        refine RU.blk (C' := (180, [some (.ref 19), none, none, none, none, none, some (.int x6)], [.int x6, .ref 24, .int x6, .ref 21], σ)) 6 rfl ?_
        obtain ⟨hv, h⟩ := cnd_n h
        refine RU.iald (N := 4) rfl rfl hv ?_
        obtain ⟨hv, h⟩ := cnd_n h
        refine RU.iast (N := 4) rfl rfl hv ?_
        refine RU.blk (C' := (194, [some (.ref 19), none, none, none, none, none, some (.int x6)], [.int x6, .ref 25, .int x6, .ref 22], (sA σ 21 (Int32.toNatClampNeg x6) (gA σ 24 (Int32.toNatClampNeg x6))))) 6 rfl ?_
        obtain ⟨hv, h⟩ := cnd_n h
        refine RU.iald (N := 4) rfl rfl hv ?_
        obtain ⟨hv, h⟩ := cnd_n h
        refine RU.iast (N := 4) rfl rfl hv ?_
        refine RU.blk (C' := (159, [some (.ref 19), none, none, none, none, none, some (.int (x6 + (1)))], [], (sA (sA σ 21 (Int32.toNatClampNeg x6) (gA σ 24 (Int32.toNatClampNeg x6))) 22 (Int32.toNatClampNeg x6) (gA (sA σ 21 (Int32.toNatClampNeg x6) (gA σ 24 (Int32.toNatClampNeg x6))) 25 (Int32.toNatClampNeg x6))))) 2 rfl ?_
        exact ih.2 (x6 + (1)) none none none none none _ _ _ h
noncomputable def F_X5_sea (p0 : Int32) (p1 : Int32) (p2 : Int32) (p3 : Int32) (σ : PS) : Option (Int32 × PS) :=
  (F_X5_noSheet p0 σ).bind fun q3 =>
  let v3 := q3.1
  let s3 := q3.2
  bif cEq v3 0 then (
    (F_X5_in (Int32.toInt64 p1) 0 (2) s3).bind fun q4 =>
    let v4 := q4.1
    let s4 := q4.2
    bif cNe v4 0 then (
      (F_X5_cellsBarred p0 p1 p2 (Int32.toInt64 p3) s4).bind fun q5 =>
      let v5 := q5.1
      let s5 := q5.2
      bif cGe v5 0 then (
        (F_X5_readsSea (((60) * p0) + p2) p3 s5).bind fun q6 =>
        let v6 := q6.1
        let s6 := q6.2
        bif cNe v6 0 then (
          L_X5_sea fuelN  122 (0) (sI (sI (sI (sI (sI s6 1217 (gI s6 1229)) 1218 (gI (sI s6 1217 (gI s6 1229)) 1230)) 1219 (gI (sI (sI s6 1217 (gI s6 1229)) 1218 (gI (sI s6 1217 (gI s6 1229)) 1230)) 1231)) 1220 (gI (sI (sI (sI s6 1217 (gI s6 1229)) 1218 (gI (sI s6 1217 (gI s6 1229)) 1230)) 1219 (gI (sI (sI s6 1217 (gI s6 1229)) 1218 (gI (sI s6 1217 (gI s6 1229)) 1230)) 1231)) 1232)) 1221 (gI (sI (sI (sI (sI s6 1217 (gI s6 1229)) 1218 (gI (sI s6 1217 (gI s6 1229)) 1230)) 1219 (gI (sI (sI s6 1217 (gI s6 1229)) 1218 (gI (sI s6 1217 (gI s6 1229)) 1230)) 1231)) 1220 (gI (sI (sI (sI s6 1217 (gI s6 1229)) 1218 (gI (sI s6 1217 (gI s6 1229)) 1230)) 1219 (gI (sI (sI s6 1217 (gI s6 1229)) 1218 (gI (sI s6 1217 (gI s6 1229)) 1230)) 1231)) 1232)) 1233))
        ) else (
          (F_X5_refused ((-100) - (gI s6 1228)) s6).bind fun q7 =>
          let v7 := q7.1
          let s7 := q7.2
          some (v7, s7)
        )
      ) else (
        some (v5, s5)
      )
    ) else (
      (F_X5_refused (-2) s4).bind fun q8 =>
      let v8 := q8.1
      let s8 := q8.2
      some (v8, s8)
    )
  ) else (
    (F_X5_refused (-1) s3).bind fun q9 =>
    let v9 := q9.1
    let s9 := q9.2
    some (v9, s9)
  )
set_option maxRecDepth 50000 in
theorem m_X5_sea (p0 : Int32) (p1 : Int32) (p2 : Int32) (p3 : Int32) (σ : PS) {v : Int32} {σ' : PS} (h : F_X5_sea p0 p1 p2 p3 σ = some (v, σ')) : PR 138 [.ref 19, .int p0, .int p1, .int p2, .int p3] σ (some (.int v)) σ' := by
  refine PR.enter (L := [some (.ref 19), some (.int p0), some (.int p1), some (.int p2), some (.int p3), none, none]) uT_138 uD_138 rfl rfl ?_
  unfold F_X5_sea at h
  refine RU.blk (C' := (1, [some (.ref 19), some (.int p0), some (.int p1), some (.int p2), some (.int p3), none, none], [.int p0], σ)) 1 rfl ?_
  obtain ⟨⟨v3, s3⟩, hk, h⟩ := Option.bind_eq_some_iff.mp h
  dsimp only at h
  refine RU.call (as := [.int p0]) (rest := []) (u := some (.int v3)) (C' := (4, [some (.ref 19), some (.int p0), some (.int p1), some (.int p2), some (.int p3), none, none], [.int v3], s3)) rfl rfl (m_X5_noSheet p0 σ hk) rfl rfl ?_
  refine RU.blk (C' := (bif cEq v3 0 then 13 else 7, [some (.ref 19), some (.int p0), some (.int p1), some (.int p2), some (.int p3), none, none], [], s3)) 1 rfl ?_
  rcases cnd_some h with ⟨hc, h⟩ | ⟨hc, h⟩
  · refine RU.tt hc ?_
    refine RU.blk (C' := (19, [some (.ref 19), some (.int p0), some (.int p1), some (.int p2), some (.int p3), none, none], [.long (2), .long 0, .long (Int32.toInt64 p1)], s3)) 4 rfl ?_
    obtain ⟨⟨v4, s4⟩, hk, h⟩ := Option.bind_eq_some_iff.mp h
    dsimp only at h
    refine RU.call (as := [.long (Int32.toInt64 p1), .long 0, .long (2)]) (rest := []) (u := some (.int v4)) (C' := (22, [some (.ref 19), some (.int p0), some (.int p1), some (.int p2), some (.int p3), none, none], [.int v4], s4)) rfl rfl (m_X5_in (Int32.toInt64 p1) 0 (2) s3 hk) rfl rfl ?_
    refine RU.blk (C' := (bif cNe v4 0 then 32 else 25, [some (.ref 19), some (.int p0), some (.int p1), some (.int p2), some (.int p3), none, none], [], s4)) 1 rfl ?_
    rcases cnd_some h with ⟨hc, h⟩ | ⟨hc, h⟩
    · refine RU.tt hc ?_
      refine RU.blk (C' := (39, [some (.ref 19), some (.int p0), some (.int p1), some (.int p2), some (.int p3), none, none], [.long (Int32.toInt64 p3), .int p2, .int p1, .int p0, .ref 19], s4)) 6 rfl ?_
      obtain ⟨⟨v5, s5⟩, hk, h⟩ := Option.bind_eq_some_iff.mp h
      dsimp only at h
      refine RU.call (as := [.ref 19, .int p0, .int p1, .int p2, .long (Int32.toInt64 p3)]) (rest := []) (u := some (.int v5)) (C' := (42, [some (.ref 19), some (.int p0), some (.int p1), some (.int p2), some (.int p3), none, none], [.int v5], s5)) rfl rfl (m_X5_cellsBarred p0 p1 p2 (Int32.toInt64 p3) s4 hk) rfl rfl ?_
      refine RU.blk (C' := (bif cGe v5 0 then 52 else 49, [some (.ref 19), some (.int p0), some (.int p1), some (.int p2), some (.int p3), some (.int v5), none], [], s5)) 3 rfl ?_
      rcases cnd_some h with ⟨hc, h⟩ | ⟨hc, h⟩
      · refine RU.tt hc ?_
        refine RU.blk (C' := (61, [some (.ref 19), some (.int p0), some (.int p1), some (.int p2), some (.int p3), some (.int v5), none], [.int p3, .int (((60) * p0) + p2), .ref 19], s5)) 7 rfl ?_
        obtain ⟨⟨v6, s6⟩, hk, h⟩ := Option.bind_eq_some_iff.mp h
        dsimp only at h
        refine RU.call (as := [.ref 19, .int (((60) * p0) + p2), .int p3]) (rest := []) (u := some (.int v6)) (C' := (64, [some (.ref 19), some (.int p0), some (.int p1), some (.int p2), some (.int p3), some (.int v5), none], [.int v6], s6)) rfl rfl (m_X5_readsSea (((60) * p0) + p2) p3 s5 hk) rfl rfl ?_
        refine RU.blk (C' := (bif cNe v6 0 then 79 else 67, [some (.ref 19), some (.int p0), some (.int p1), some (.int p2), some (.int p3), some (.int v5), none], [], s6)) 1 rfl ?_
        rcases cnd_some h with ⟨hc, h⟩ | ⟨hc, h⟩
        · refine RU.tt hc ?_
          refine RU.blk (C' := (122, [some (.ref 19), some (.int p0), some (.int p1), some (.int p2), some (.int p3), some (.int v5), some (.int (0))], [], (sI (sI (sI (sI (sI s6 1217 (gI s6 1229)) 1218 (gI (sI s6 1217 (gI s6 1229)) 1230)) 1219 (gI (sI (sI s6 1217 (gI s6 1229)) 1218 (gI (sI s6 1217 (gI s6 1229)) 1230)) 1231)) 1220 (gI (sI (sI (sI s6 1217 (gI s6 1229)) 1218 (gI (sI s6 1217 (gI s6 1229)) 1230)) 1219 (gI (sI (sI s6 1217 (gI s6 1229)) 1218 (gI (sI s6 1217 (gI s6 1229)) 1230)) 1231)) 1232)) 1221 (gI (sI (sI (sI (sI s6 1217 (gI s6 1229)) 1218 (gI (sI s6 1217 (gI s6 1229)) 1230)) 1219 (gI (sI (sI s6 1217 (gI s6 1229)) 1218 (gI (sI s6 1217 (gI s6 1229)) 1230)) 1231)) 1220 (gI (sI (sI (sI s6 1217 (gI s6 1229)) 1218 (gI (sI s6 1217 (gI s6 1229)) 1230)) 1219 (gI (sI (sI s6 1217 (gI s6 1229)) 1218 (gI (sI s6 1217 (gI s6 1229)) 1230)) 1231)) 1232)) 1233)))) 22 rfl ?_
          exact (ml_X5_sea fuelN).1 (0) (some (.int p0)) (some (.int p1)) (some (.int p2)) (some (.int p3)) (some (.int v5)) _ _ _ h
        · refine RU.ff hc ?_
          refine RU.blk (C' := (75, [some (.ref 19), some (.int p0), some (.int p1), some (.int p2), some (.int p3), some (.int v5), none], [.int ((-100) - (gI s6 1228)), .ref 19], s6)) 5 rfl ?_
          obtain ⟨⟨v7, s7⟩, hk, h⟩ := Option.bind_eq_some_iff.mp h
          dsimp only at h
          refine RU.call (as := [.ref 19, .int ((-100) - (gI s6 1228))]) (rest := []) (u := some (.int v7)) (C' := (78, [some (.ref 19), some (.int p0), some (.int p1), some (.int p2), some (.int p3), some (.int v5), none], [.int v7], s7)) rfl rfl (m_X5_refused ((-100) - (gI s6 1228)) s6 hk) rfl rfl ?_
          obtain ⟨rfl, rfl⟩ := ret_inj h
          exact RU.ret rfl rfl rfl
      · refine RU.ff hc ?_
        refine RU.blk (C' := (51, [some (.ref 19), some (.int p0), some (.int p1), some (.int p2), some (.int p3), some (.int v5), none], [.int v5], s5)) 1 rfl ?_
        obtain ⟨rfl, rfl⟩ := ret_inj h
        exact RU.ret rfl rfl rfl
    · refine RU.ff hc ?_
      refine RU.blk (C' := (28, [some (.ref 19), some (.int p0), some (.int p1), some (.int p2), some (.int p3), none, none], [.int (-2), .ref 19], s4)) 2 rfl ?_
      obtain ⟨⟨v8, s8⟩, hk, h⟩ := Option.bind_eq_some_iff.mp h
      dsimp only at h
      refine RU.call (as := [.ref 19, .int (-2)]) (rest := []) (u := some (.int v8)) (C' := (31, [some (.ref 19), some (.int p0), some (.int p1), some (.int p2), some (.int p3), none, none], [.int v8], s8)) rfl rfl (m_X5_refused (-2) s4 hk) rfl rfl ?_
      obtain ⟨rfl, rfl⟩ := ret_inj h
      exact RU.ret rfl rfl rfl
  · refine RU.ff hc ?_
    refine RU.blk (C' := (9, [some (.ref 19), some (.int p0), some (.int p1), some (.int p2), some (.int p3), none, none], [.int (-1), .ref 19], s3)) 2 rfl ?_
    obtain ⟨⟨v9, s9⟩, hk, h⟩ := Option.bind_eq_some_iff.mp h
    dsimp only at h
    refine RU.call (as := [.ref 19, .int (-1)]) (rest := []) (u := some (.int v9)) (C' := (12, [some (.ref 19), some (.int p0), some (.int p1), some (.int p2), some (.int p3), none, none], [.int v9], s9)) rfl rfl (m_X5_refused (-1) s3 hk) rfl rfl ?_
    obtain ⟨rfl, rfl⟩ := ret_inj h
    exact RU.ret rfl rfl rfl
noncomputable def F_X5_tells (p0 : Int32) (p1 : Int32) (σ : PS) : Option (Int32 × PS) :=
  bif vin p0 4 then
  bif cLe p1 (gA σ 22 (Int32.toNatClampNeg p0)) then (
    bif vin p0 4 then
    bif cNe (gA σ 21 (Int32.toNatClampNeg p0)) 0 then (
      bif vin p0 4 then
      bif cNe (gA σ 21 (Int32.toNatClampNeg p0)) (1) then (
        some ((((2) * (0)) + (2)), σ)
      ) else (
        some (((0) + (1)), σ)
      )
      else none
    ) else (
      some ((0), σ)
    )
    else none
  ) else (
    bif vin p0 4 then
    bif vin p0 4 then
    bif cNe (gA σ 21 (Int32.toNatClampNeg p0)) 0 then (
      bif vin p0 4 then
      bif cNe (gA σ 21 (Int32.toNatClampNeg p0)) (1) then (
        some ((((2) * (p1 - (gA σ 22 (Int32.toNatClampNeg p0)))) + (2)), σ)
      ) else (
        some (((p1 - (gA σ 22 (Int32.toNatClampNeg p0))) + (1)), σ)
      )
      else none
    ) else (
      some ((p1 - (gA σ 22 (Int32.toNatClampNeg p0))), σ)
    )
    else none
    else none
  )
  else none
set_option maxRecDepth 50000 in
theorem m_X5_tells (p0 : Int32) (p1 : Int32) (σ : PS) {v : Int32} {σ' : PS} (h : F_X5_tells p0 p1 σ = some (v, σ')) : PR 140 [.ref 19, .int p0, .int p1] σ (some (.int v)) σ' := by
  refine PR.enter (L := [some (.ref 19), some (.int p0), some (.int p1), none]) uT_140 uD_140 rfl rfl ?_
  unfold F_X5_tells at h
  refine RU.blk (C' := (6, [some (.ref 19), some (.int p0), some (.int p1), none], [.int p0, .ref 22, .int p1], σ)) 4 rfl ?_
  obtain ⟨hv, h⟩ := cnd_n h
  refine RU.iald (N := 4) rfl rfl hv ?_
  refine RU.blk (C' := (bif cLe p1 (gA σ 22 (Int32.toNatClampNeg p0)) then 21 else 10, [some (.ref 19), some (.int p0), some (.int p1), none], [], σ)) 1 rfl ?_
  rcases cnd_some h with ⟨hc, h⟩ | ⟨hc, h⟩
  · refine RU.tt hc ?_
    refine RU.blk (C' := (28, [some (.ref 19), some (.int p0), some (.int p1), some (.int (0))], [.int p0, .ref 21], σ)) 5 rfl ?_
    obtain ⟨hv, h⟩ := cnd_n h
    refine RU.iald (N := 4) rfl rfl hv ?_
    refine RU.blk (C' := (bif cNe (gA σ 21 (Int32.toNatClampNeg p0)) 0 then 36 else 32, [some (.ref 19), some (.int p0), some (.int p1), some (.int (0))], [], σ)) 1 rfl ?_
    rcases cnd_some h with ⟨hc, h⟩ | ⟨hc, h⟩
    · refine RU.tt hc ?_
      refine RU.blk (C' := (41, [some (.ref 19), some (.int p0), some (.int p1), some (.int (0))], [.int p0, .ref 21], σ)) 3 rfl ?_
      obtain ⟨hv, h⟩ := cnd_n h
      refine RU.iald (N := 4) rfl rfl hv ?_
      refine RU.blk (C' := (bif cNe (gA σ 21 (Int32.toNatClampNeg p0)) (1) then 52 else 46, [some (.ref 19), some (.int p0), some (.int p1), some (.int (0))], [], σ)) 2 rfl ?_
      rcases cnd_some h with ⟨hc, h⟩ | ⟨hc, h⟩
      · refine RU.tt hc ?_
        refine RU.blk (C' := (57, [some (.ref 19), some (.int p0), some (.int p1), some (.int (0))], [.int (((2) * (0)) + (2))], σ)) 5 rfl ?_
        obtain ⟨rfl, rfl⟩ := ret_inj h
        exact RU.ret rfl rfl rfl
      · refine RU.ff hc ?_
        refine RU.blk (C' := (57, [some (.ref 19), some (.int p0), some (.int p1), some (.int (0))], [.int ((0) + (1))], σ)) 4 rfl ?_
        obtain ⟨rfl, rfl⟩ := ret_inj h
        exact RU.ret rfl rfl rfl
    · refine RU.ff hc ?_
      refine RU.blk (C' := (57, [some (.ref 19), some (.int p0), some (.int p1), some (.int (0))], [.int (0)], σ)) 2 rfl ?_
      obtain ⟨rfl, rfl⟩ := ret_inj h
      exact RU.ret rfl rfl rfl
  · refine RU.ff hc ?_
    refine RU.blk (C' := (16, [some (.ref 19), some (.int p0), some (.int p1), none], [.int p0, .ref 22, .int p1], σ)) 4 rfl ?_
    obtain ⟨hv, h⟩ := cnd_n h
    refine RU.iald (N := 4) rfl rfl hv ?_
    refine RU.blk (C' := (28, [some (.ref 19), some (.int p0), some (.int p1), some (.int (p1 - (gA σ 22 (Int32.toNatClampNeg p0))))], [.int p0, .ref 21], σ)) 6 rfl ?_
    obtain ⟨hv, h⟩ := cnd_n h
    refine RU.iald (N := 4) rfl rfl hv ?_
    refine RU.blk (C' := (bif cNe (gA σ 21 (Int32.toNatClampNeg p0)) 0 then 36 else 32, [some (.ref 19), some (.int p0), some (.int p1), some (.int (p1 - (gA σ 22 (Int32.toNatClampNeg p0))))], [], σ)) 1 rfl ?_
    rcases cnd_some h with ⟨hc, h⟩ | ⟨hc, h⟩
    · refine RU.tt hc ?_
      refine RU.blk (C' := (41, [some (.ref 19), some (.int p0), some (.int p1), some (.int (p1 - (gA σ 22 (Int32.toNatClampNeg p0))))], [.int p0, .ref 21], σ)) 3 rfl ?_
      obtain ⟨hv, h⟩ := cnd_n h
      refine RU.iald (N := 4) rfl rfl hv ?_
      refine RU.blk (C' := (bif cNe (gA σ 21 (Int32.toNatClampNeg p0)) (1) then 52 else 46, [some (.ref 19), some (.int p0), some (.int p1), some (.int (p1 - (gA σ 22 (Int32.toNatClampNeg p0))))], [], σ)) 2 rfl ?_
      rcases cnd_some h with ⟨hc, h⟩ | ⟨hc, h⟩
      · refine RU.tt hc ?_
        refine RU.blk (C' := (57, [some (.ref 19), some (.int p0), some (.int p1), some (.int (p1 - (gA σ 22 (Int32.toNatClampNeg p0))))], [.int (((2) * (p1 - (gA σ 22 (Int32.toNatClampNeg p0)))) + (2))], σ)) 5 rfl ?_
        obtain ⟨rfl, rfl⟩ := ret_inj h
        exact RU.ret rfl rfl rfl
      · refine RU.ff hc ?_
        refine RU.blk (C' := (57, [some (.ref 19), some (.int p0), some (.int p1), some (.int (p1 - (gA σ 22 (Int32.toNatClampNeg p0))))], [.int ((p1 - (gA σ 22 (Int32.toNatClampNeg p0))) + (1))], σ)) 4 rfl ?_
        obtain ⟨rfl, rfl⟩ := ret_inj h
        exact RU.ret rfl rfl rfl
    · refine RU.ff hc ?_
      refine RU.blk (C' := (57, [some (.ref 19), some (.int p0), some (.int p1), some (.int (p1 - (gA σ 22 (Int32.toNatClampNeg p0))))], [.int (p1 - (gA σ 22 (Int32.toNatClampNeg p0)))], σ)) 2 rfl ?_
      obtain ⟨rfl, rfl⟩ := ret_inj h
      exact RU.ret rfl rfl rfl
noncomputable def F_X5_ofLooker (p0 : Int32) (p1 : Int32) (σ : PS) : Option (Int32 × PS) :=
  (F_X5_noLooker p0 σ).bind fun q1 =>
  let v1 := q1.1
  let s1 := q1.2
  bif cEq v1 0 then (
    bif decide (p1 = (0)) then (
      bif vin p0 4 then
      some ((gA s1 21 (Int32.toNatClampNeg p0)), s1)
      else none
    ) else (
      bif decide (p1 = (1)) then (
        bif vin p0 4 then
        some ((gA s1 22 (Int32.toNatClampNeg p0)), s1)
        else none
      ) else (
        bif decide (p1 = (2)) then (
          some (((shr (gI s1 1223) p0) &&& (1)), s1)
        ) else (
          bif decide (p1 = (3)) then (
            (F_X5_placeOf p0 s1).bind fun q2 =>
            let v2 := q2.1
            let s2 := q2.2
            some (v2, s2)
          ) else (
            bif decide (p1 = (4)) then (
              (F_X5_placeOf p0 s1).bind fun q3 =>
              let v3 := q3.1
              let s3 := q3.2
              bif vin v3 36 then
              (F_X5_tells p0 (gA s3 20 (Int32.toNatClampNeg v3)) s3).bind fun q4 =>
              let v4 := q4.1
              let s4 := q4.2
              some (v4, s4)
              else none
            ) else (
              some ((-2), s1)
            )
          )
        )
      )
    )
  ) else (
    some ((-1), s1)
  )
set_option maxRecDepth 50000 in
theorem m_X5_ofLooker (p0 : Int32) (p1 : Int32) (σ : PS) {v : Int32} {σ' : PS} (h : F_X5_ofLooker p0 p1 σ = some (v, σ')) : PR 142 [.ref 19, .int p0, .int p1] σ (some (.int v)) σ' := by
  refine PR.enter (L := [some (.ref 19), some (.int p0), some (.int p1)]) uT_142 uD_142 rfl rfl ?_
  unfold F_X5_ofLooker at h
  refine RU.blk (C' := (2, [some (.ref 19), some (.int p0), some (.int p1)], [.int p0, .ref 19], σ)) 2 rfl ?_
  obtain ⟨⟨v1, s1⟩, hk, h⟩ := Option.bind_eq_some_iff.mp h
  dsimp only at h
  refine RU.call (as := [.ref 19, .int p0]) (rest := []) (u := some (.int v1)) (C' := (5, [some (.ref 19), some (.int p0), some (.int p1)], [.int v1], s1)) rfl rfl (m_X5_noLooker p0 σ hk) rfl rfl ?_
  refine RU.blk (C' := (bif cEq v1 0 then 10 else 8, [some (.ref 19), some (.int p0), some (.int p1)], [], s1)) 1 rfl ?_
  rcases cnd_some h with ⟨hc, h⟩ | ⟨hc, h⟩
  · refine RU.tt hc ?_
    refine RU.blk (C' := (bif decide (p1 = (0)) then 44 else (bif decide (p1 = (1)) then 51 else (bif decide (p1 = (2)) then 58 else (bif decide (p1 = (3)) then 67 else (bif decide (p1 = (4)) then 73 else 89)))), [some (.ref 19), some (.int p0), some (.int p1)], [], s1)) 2 rfl ?_
    rcases cnd_some h with ⟨hc, h⟩ | ⟨hc, h⟩
    · refine RU.tt hc ?_
      refine RU.blk (C' := (49, [some (.ref 19), some (.int p0), some (.int p1)], [.int p0, .ref 21], s1)) 3 rfl ?_
      obtain ⟨hv, h⟩ := cnd_n h
      refine RU.iald (N := 4) rfl rfl hv ?_
      obtain ⟨rfl, rfl⟩ := ret_inj h
      exact RU.ret rfl rfl rfl
    · refine RU.ff hc ?_
      rcases cnd_some h with ⟨hc, h⟩ | ⟨hc, h⟩
      · refine RU.tt hc ?_
        refine RU.blk (C' := (56, [some (.ref 19), some (.int p0), some (.int p1)], [.int p0, .ref 22], s1)) 3 rfl ?_
        obtain ⟨hv, h⟩ := cnd_n h
        refine RU.iald (N := 4) rfl rfl hv ?_
        obtain ⟨rfl, rfl⟩ := ret_inj h
        exact RU.ret rfl rfl rfl
      · refine RU.ff hc ?_
        rcases cnd_some h with ⟨hc, h⟩ | ⟨hc, h⟩
        · refine RU.tt hc ?_
          refine RU.blk (C' := (66, [some (.ref 19), some (.int p0), some (.int p1)], [.int ((shr (gI s1 1223) p0) &&& (1))], s1)) 6 rfl ?_
          obtain ⟨rfl, rfl⟩ := ret_inj h
          exact RU.ret rfl rfl rfl
        · refine RU.ff hc ?_
          rcases cnd_some h with ⟨hc, h⟩ | ⟨hc, h⟩
          · refine RU.tt hc ?_
            refine RU.blk (C' := (69, [some (.ref 19), some (.int p0), some (.int p1)], [.int p0, .ref 19], s1)) 2 rfl ?_
            obtain ⟨⟨v2, s2⟩, hk, h⟩ := Option.bind_eq_some_iff.mp h
            dsimp only at h
            refine RU.call (as := [.ref 19, .int p0]) (rest := []) (u := some (.int v2)) (C' := (72, [some (.ref 19), some (.int p0), some (.int p1)], [.int v2], s2)) rfl rfl (m_X5_placeOf p0 s1 hk) rfl rfl ?_
            obtain ⟨rfl, rfl⟩ := ret_inj h
            exact RU.ret rfl rfl rfl
          · refine RU.ff hc ?_
            rcases cnd_some h with ⟨hc, h⟩ | ⟨hc, h⟩
            · refine RU.tt hc ?_
              refine RU.blk (C' := (81, [some (.ref 19), some (.int p0), some (.int p1)], [.int p0, .ref 19, .ref 20, .int p0, .ref 19], s1)) 6 rfl ?_
              obtain ⟨⟨v3, s3⟩, hk, h⟩ := Option.bind_eq_some_iff.mp h
              dsimp only at h
              refine RU.call (as := [.ref 19, .int p0]) (rest := [.ref 20, .int p0, .ref 19]) (u := some (.int v3)) (C' := (84, [some (.ref 19), some (.int p0), some (.int p1)], [.int v3, .ref 20, .int p0, .ref 19], s3)) rfl rfl (m_X5_placeOf p0 s1 hk) rfl rfl ?_
              obtain ⟨hv, h⟩ := cnd_n h
              refine RU.iald (N := 36) rfl rfl hv ?_
              obtain ⟨⟨v4, s4⟩, hk, h⟩ := Option.bind_eq_some_iff.mp h
              dsimp only at h
              refine RU.call (as := [.ref 19, .int p0, .int (gA s3 20 (Int32.toNatClampNeg v3))]) (rest := []) (u := some (.int v4)) (C' := (88, [some (.ref 19), some (.int p0), some (.int p1)], [.int v4], s4)) rfl rfl (m_X5_tells p0 (gA s3 20 (Int32.toNatClampNeg v3)) s3 hk) rfl rfl ?_
              obtain ⟨rfl, rfl⟩ := ret_inj h
              exact RU.ret rfl rfl rfl
            · refine RU.ff hc ?_
              refine RU.blk (C' := (91, [some (.ref 19), some (.int p0), some (.int p1)], [.int (-2)], s1)) 1 rfl ?_
              obtain ⟨rfl, rfl⟩ := ret_inj h
              exact RU.ret rfl rfl rfl
  · refine RU.ff hc ?_
    refine RU.blk (C' := (9, [some (.ref 19), some (.int p0), some (.int p1)], [.int (-1)], s1)) 1 rfl ?_
    obtain ⟨rfl, rfl⟩ := ret_inj h
    exact RU.ret rfl rfl rfl
noncomputable def F_X5_height (p0 : Int32) (σ : PS) : Option (Int32 × PS) :=
  (F_X5_noPlace p0 σ).bind fun q1 =>
  let v1 := q1.1
  let s1 := q1.2
  bif cEq v1 0 then (
    bif vin p0 36 then
    some ((gA s1 20 (Int32.toNatClampNeg p0)), s1)
    else none
  ) else (
    some ((-1), s1)
  )
set_option maxRecDepth 50000 in
theorem m_X5_height (p0 : Int32) (σ : PS) {v : Int32} {σ' : PS} (h : F_X5_height p0 σ = some (v, σ')) : PR 143 [.ref 19, .int p0] σ (some (.int v)) σ' := by
  refine PR.enter (L := [some (.ref 19), some (.int p0)]) uT_143 uD_143 rfl rfl ?_
  unfold F_X5_height at h
  refine RU.blk (C' := (2, [some (.ref 19), some (.int p0)], [.int p0, .ref 19], σ)) 2 rfl ?_
  obtain ⟨⟨v1, s1⟩, hk, h⟩ := Option.bind_eq_some_iff.mp h
  dsimp only at h
  refine RU.call (as := [.ref 19, .int p0]) (rest := []) (u := some (.int v1)) (C' := (5, [some (.ref 19), some (.int p0)], [.int v1], s1)) rfl rfl (m_X5_noPlace p0 σ hk) rfl rfl ?_
  refine RU.blk (C' := (bif cEq v1 0 then 12 else 8, [some (.ref 19), some (.int p0)], [], s1)) 1 rfl ?_
  rcases cnd_some h with ⟨hc, h⟩ | ⟨hc, h⟩
  · refine RU.tt hc ?_
    refine RU.blk (C' := (17, [some (.ref 19), some (.int p0)], [.int p0, .ref 20], s1)) 3 rfl ?_
    obtain ⟨hv, h⟩ := cnd_n h
    refine RU.iald (N := 36) rfl rfl hv ?_
    obtain ⟨rfl, rfl⟩ := ret_inj h
    exact RU.ret rfl rfl rfl
  · refine RU.ff hc ?_
    refine RU.blk (C' := (18, [some (.ref 19), some (.int p0)], [.int (-1)], s1)) 2 rfl ?_
    obtain ⟨rfl, rfl⟩ := ret_inj h
    exact RU.ret rfl rfl rfl
noncomputable def F_X5_heap (p0 : Int32) (p1 : Int32) (σ : PS) : Option (Int32 × PS) :=
  (F_X5_noPlace p0 σ).bind fun q1 =>
  let v1 := q1.1
  let s1 := q1.2
  bif cEq v1 0 then (
    (F_X5_in (Int32.toInt64 p1) 0 (9) s1).bind fun q2 =>
    let v2 := q2.1
    let s2 := q2.2
    bif cNe v2 0 then (
      bif vin p0 36 then
      bif vin p0 36 then
      some ((gA s2 20 (Int32.toNatClampNeg p0)), (sA s2 20 (Int32.toNatClampNeg p0) p1))
      else none
      else none
    ) else (
      some ((-2), s2)
    )
  ) else (
    some ((-1), s1)
  )
set_option maxRecDepth 50000 in
theorem m_X5_heap (p0 : Int32) (p1 : Int32) (σ : PS) {v : Int32} {σ' : PS} (h : F_X5_heap p0 p1 σ = some (v, σ')) : PR 144 [.ref 19, .int p0, .int p1] σ (some (.int v)) σ' := by
  refine PR.enter (L := [some (.ref 19), some (.int p0), some (.int p1), none]) uT_144 uD_144 rfl rfl ?_
  unfold F_X5_heap at h
  refine RU.blk (C' := (2, [some (.ref 19), some (.int p0), some (.int p1), none], [.int p0, .ref 19], σ)) 2 rfl ?_
  obtain ⟨⟨v1, s1⟩, hk, h⟩ := Option.bind_eq_some_iff.mp h
  dsimp only at h
  refine RU.call (as := [.ref 19, .int p0]) (rest := []) (u := some (.int v1)) (C' := (5, [some (.ref 19), some (.int p0), some (.int p1), none], [.int v1], s1)) rfl rfl (m_X5_noPlace p0 σ hk) rfl rfl ?_
  refine RU.blk (C' := (bif cEq v1 0 then 10 else 8, [some (.ref 19), some (.int p0), some (.int p1), none], [], s1)) 1 rfl ?_
  rcases cnd_some h with ⟨hc, h⟩ | ⟨hc, h⟩
  · refine RU.tt hc ?_
    refine RU.blk (C' := (16, [some (.ref 19), some (.int p0), some (.int p1), none], [.long (9), .long 0, .long (Int32.toInt64 p1)], s1)) 4 rfl ?_
    obtain ⟨⟨v2, s2⟩, hk, h⟩ := Option.bind_eq_some_iff.mp h
    dsimp only at h
    refine RU.call (as := [.long (Int32.toInt64 p1), .long 0, .long (9)]) (rest := []) (u := some (.int v2)) (C' := (19, [some (.ref 19), some (.int p0), some (.int p1), none], [.int v2], s2)) rfl rfl (m_X5_in (Int32.toInt64 p1) 0 (9) s1 hk) rfl rfl ?_
    refine RU.blk (C' := (bif cNe v2 0 then 25 else 22, [some (.ref 19), some (.int p0), some (.int p1), none], [], s2)) 1 rfl ?_
    rcases cnd_some h with ⟨hc, h⟩ | ⟨hc, h⟩
    · refine RU.tt hc ?_
      refine RU.blk (C' := (30, [some (.ref 19), some (.int p0), some (.int p1), none], [.int p0, .ref 20], s2)) 3 rfl ?_
      obtain ⟨hv, h⟩ := cnd_n h
      refine RU.iald (N := 36) rfl rfl hv ?_
      refine RU.blk (C' := (38, [some (.ref 19), some (.int p0), some (.int p1), some (.int (gA s2 20 (Int32.toNatClampNeg p0)))], [.int p1, .int p0, .ref 20], s2)) 5 rfl ?_
      obtain ⟨hv, h⟩ := cnd_n h
      refine RU.iast (N := 36) rfl rfl hv ?_
      refine RU.blk (C' := (40, [some (.ref 19), some (.int p0), some (.int p1), some (.int (gA s2 20 (Int32.toNatClampNeg p0)))], [.int (gA s2 20 (Int32.toNatClampNeg p0))], (sA s2 20 (Int32.toNatClampNeg p0) p1))) 1 rfl ?_
      obtain ⟨rfl, rfl⟩ := ret_inj h
      exact RU.ret rfl rfl rfl
    · refine RU.ff hc ?_
      refine RU.blk (C' := (24, [some (.ref 19), some (.int p0), some (.int p1), none], [.int (-2)], s2)) 1 rfl ?_
      obtain ⟨rfl, rfl⟩ := ret_inj h
      exact RU.ret rfl rfl rfl
  · refine RU.ff hc ?_
    refine RU.blk (C' := (9, [some (.ref 19), some (.int p0), some (.int p1), none], [.int (-1)], s1)) 1 rfl ?_
    obtain ⟨rfl, rfl⟩ := ret_inj h
    exact RU.ret rfl rfl rfl
noncomputable def F_X5_dim (p0 : Int32) (p1 : Int32) (σ : PS) : Option (Int32 × PS) :=
  (F_X5_noLooker p0 σ).bind fun q1 =>
  let v1 := q1.1
  let s1 := q1.2
  bif cEq v1 0 then (
    (F_X5_in (Int32.toInt64 p1) 0 (9) s1).bind fun q2 =>
    let v2 := q2.1
    let s2 := q2.2
    bif cNe v2 0 then (
      bif vin p0 4 then
      bif vin p0 4 then
      some ((gA s2 22 (Int32.toNatClampNeg p0)), (sA s2 22 (Int32.toNatClampNeg p0) p1))
      else none
      else none
    ) else (
      some ((-2), s2)
    )
  ) else (
    some ((-1), s1)
  )
set_option maxRecDepth 50000 in
theorem m_X5_dim (p0 : Int32) (p1 : Int32) (σ : PS) {v : Int32} {σ' : PS} (h : F_X5_dim p0 p1 σ = some (v, σ')) : PR 145 [.ref 19, .int p0, .int p1] σ (some (.int v)) σ' := by
  refine PR.enter (L := [some (.ref 19), some (.int p0), some (.int p1), none]) uT_145 uD_145 rfl rfl ?_
  unfold F_X5_dim at h
  refine RU.blk (C' := (2, [some (.ref 19), some (.int p0), some (.int p1), none], [.int p0, .ref 19], σ)) 2 rfl ?_
  obtain ⟨⟨v1, s1⟩, hk, h⟩ := Option.bind_eq_some_iff.mp h
  dsimp only at h
  refine RU.call (as := [.ref 19, .int p0]) (rest := []) (u := some (.int v1)) (C' := (5, [some (.ref 19), some (.int p0), some (.int p1), none], [.int v1], s1)) rfl rfl (m_X5_noLooker p0 σ hk) rfl rfl ?_
  refine RU.blk (C' := (bif cEq v1 0 then 10 else 8, [some (.ref 19), some (.int p0), some (.int p1), none], [], s1)) 1 rfl ?_
  rcases cnd_some h with ⟨hc, h⟩ | ⟨hc, h⟩
  · refine RU.tt hc ?_
    refine RU.blk (C' := (16, [some (.ref 19), some (.int p0), some (.int p1), none], [.long (9), .long 0, .long (Int32.toInt64 p1)], s1)) 4 rfl ?_
    obtain ⟨⟨v2, s2⟩, hk, h⟩ := Option.bind_eq_some_iff.mp h
    dsimp only at h
    refine RU.call (as := [.long (Int32.toInt64 p1), .long 0, .long (9)]) (rest := []) (u := some (.int v2)) (C' := (19, [some (.ref 19), some (.int p0), some (.int p1), none], [.int v2], s2)) rfl rfl (m_X5_in (Int32.toInt64 p1) 0 (9) s1 hk) rfl rfl ?_
    refine RU.blk (C' := (bif cNe v2 0 then 25 else 22, [some (.ref 19), some (.int p0), some (.int p1), none], [], s2)) 1 rfl ?_
    rcases cnd_some h with ⟨hc, h⟩ | ⟨hc, h⟩
    · refine RU.tt hc ?_
      refine RU.blk (C' := (30, [some (.ref 19), some (.int p0), some (.int p1), none], [.int p0, .ref 22], s2)) 3 rfl ?_
      obtain ⟨hv, h⟩ := cnd_n h
      refine RU.iald (N := 4) rfl rfl hv ?_
      refine RU.blk (C' := (38, [some (.ref 19), some (.int p0), some (.int p1), some (.int (gA s2 22 (Int32.toNatClampNeg p0)))], [.int p1, .int p0, .ref 22], s2)) 5 rfl ?_
      obtain ⟨hv, h⟩ := cnd_n h
      refine RU.iast (N := 4) rfl rfl hv ?_
      refine RU.blk (C' := (40, [some (.ref 19), some (.int p0), some (.int p1), some (.int (gA s2 22 (Int32.toNatClampNeg p0)))], [.int (gA s2 22 (Int32.toNatClampNeg p0))], (sA s2 22 (Int32.toNatClampNeg p0) p1))) 1 rfl ?_
      obtain ⟨rfl, rfl⟩ := ret_inj h
      exact RU.ret rfl rfl rfl
    · refine RU.ff hc ?_
      refine RU.blk (C' := (24, [some (.ref 19), some (.int p0), some (.int p1), none], [.int (-2)], s2)) 1 rfl ?_
      obtain ⟨rfl, rfl⟩ := ret_inj h
      exact RU.ret rfl rfl rfl
  · refine RU.ff hc ?_
    refine RU.blk (C' := (9, [some (.ref 19), some (.int p0), some (.int p1), none], [.int (-1)], s1)) 1 rfl ?_
    obtain ⟨rfl, rfl⟩ := ret_inj h
    exact RU.ret rfl rfl rfl
noncomputable def F_X5_scrape (p0 : Int32) (σ : PS) : Option (Int32 × PS) :=
  (F_X5_noLooker p0 σ).bind fun q1 =>
  let v1 := q1.1
  let s1 := q1.2
  bif cEq v1 0 then (
    (F_X5_isIn (gI s1 1223) p0 s1).bind fun q2 =>
    let v2 := q2.1
    let s2 := q2.2
    bif cEq v2 0 then (
      (F_X5_bits (Int32.toInt64 (gI (sI s2 1223 ((gI s2 1223) ||| (shl (1) p0))) 1223)) (sI s2 1223 ((gI s2 1223) ||| (shl (1) p0)))).bind fun q3 =>
      let v3 := q3.1
      let s3 := q3.2
      some (((gI (sI s2 1223 ((gI s2 1223) ||| (shl (1) p0))) 1219) - v3), s3)
    ) else (
      some ((-3), s2)
    )
  ) else (
    some ((-1), s1)
  )
set_option maxRecDepth 50000 in
theorem m_X5_scrape (p0 : Int32) (σ : PS) {v : Int32} {σ' : PS} (h : F_X5_scrape p0 σ = some (v, σ')) : PR 146 [.ref 19, .int p0] σ (some (.int v)) σ' := by
  refine PR.enter (L := [some (.ref 19), some (.int p0)]) uT_146 uD_146 rfl rfl ?_
  unfold F_X5_scrape at h
  refine RU.blk (C' := (2, [some (.ref 19), some (.int p0)], [.int p0, .ref 19], σ)) 2 rfl ?_
  obtain ⟨⟨v1, s1⟩, hk, h⟩ := Option.bind_eq_some_iff.mp h
  dsimp only at h
  refine RU.call (as := [.ref 19, .int p0]) (rest := []) (u := some (.int v1)) (C' := (5, [some (.ref 19), some (.int p0)], [.int v1], s1)) rfl rfl (m_X5_noLooker p0 σ hk) rfl rfl ?_
  refine RU.blk (C' := (bif cEq v1 0 then 10 else 8, [some (.ref 19), some (.int p0)], [], s1)) 1 rfl ?_
  rcases cnd_some h with ⟨hc, h⟩ | ⟨hc, h⟩
  · refine RU.tt hc ?_
    refine RU.blk (C' := (15, [some (.ref 19), some (.int p0)], [.int p0, .int (gI s1 1223)], s1)) 3 rfl ?_
    obtain ⟨⟨v2, s2⟩, hk, h⟩ := Option.bind_eq_some_iff.mp h
    dsimp only at h
    refine RU.call (as := [.int (gI s1 1223), .int p0]) (rest := []) (u := some (.int v2)) (C' := (18, [some (.ref 19), some (.int p0)], [.int v2], s2)) rfl rfl (m_X5_isIn (gI s1 1223) p0 s1 hk) rfl rfl ?_
    refine RU.blk (C' := (bif cEq v2 0 then 24 else 21, [some (.ref 19), some (.int p0)], [], s2)) 1 rfl ?_
    rcases cnd_some h with ⟨hc, h⟩ | ⟨hc, h⟩
    · refine RU.tt hc ?_
      refine RU.blk (C' := (45, [some (.ref 19), some (.int p0)], [.long (Int32.toInt64 (gI (sI s2 1223 ((gI s2 1223) ||| (shl (1) p0))) 1223)), .int (gI (sI s2 1223 ((gI s2 1223) ||| (shl (1) p0))) 1219)], (sI s2 1223 ((gI s2 1223) ||| (shl (1) p0))))) 13 rfl ?_
      obtain ⟨⟨v3, s3⟩, hk, h⟩ := Option.bind_eq_some_iff.mp h
      dsimp only at h
      refine RU.call (as := [.long (Int32.toInt64 (gI (sI s2 1223 ((gI s2 1223) ||| (shl (1) p0))) 1223))]) (rest := [.int (gI (sI s2 1223 ((gI s2 1223) ||| (shl (1) p0))) 1219)]) (u := some (.int v3)) (C' := (48, [some (.ref 19), some (.int p0)], [.int v3, .int (gI (sI s2 1223 ((gI s2 1223) ||| (shl (1) p0))) 1219)], s3)) rfl rfl (m_X5_bits (Int32.toInt64 (gI (sI s2 1223 ((gI s2 1223) ||| (shl (1) p0))) 1223)) (sI s2 1223 ((gI s2 1223) ||| (shl (1) p0))) hk) rfl rfl ?_
      refine RU.blk (C' := (49, [some (.ref 19), some (.int p0)], [.int ((gI (sI s2 1223 ((gI s2 1223) ||| (shl (1) p0))) 1219) - v3)], s3)) 1 rfl ?_
      obtain ⟨rfl, rfl⟩ := ret_inj h
      exact RU.ret rfl rfl rfl
    · refine RU.ff hc ?_
      refine RU.blk (C' := (23, [some (.ref 19), some (.int p0)], [.int (-3)], s2)) 1 rfl ?_
      obtain ⟨rfl, rfl⟩ := ret_inj h
      exact RU.ret rfl rfl rfl
  · refine RU.ff hc ?_
    refine RU.blk (C' := (9, [some (.ref 19), some (.int p0)], [.int (-1)], s1)) 1 rfl ?_
    obtain ⟨rfl, rfl⟩ := ret_inj h
    exact RU.ret rfl rfl rfl
noncomputable def F_X5_grow (p0 : Int32) (σ : PS) : Option (Int32 × PS) :=
  (F_X5_noLooker p0 σ).bind fun q1 =>
  let v1 := q1.1
  let s1 := q1.2
  bif cEq v1 0 then (
    (F_X5_isIn (gI s1 1223) p0 s1).bind fun q2 =>
    let v2 := q2.1
    let s2 := q2.2
    bif cNe v2 0 then (
      (F_X5_over (sI s2 1223 ((gI s2 1223) &&& ((shl (1) p0) ^^^ (-1))))).bind fun q3 =>
      let v3 := q3.1
      let s3 := q3.2
      (F_X5_bits (Int32.toInt64 (gI (sL s3 1224 ((gL (sI s2 1223 ((gI s2 1223) &&& ((shl (1) p0) ^^^ (-1)))) 1224) ||| v3)) 1223)) (sL s3 1224 ((gL (sI s2 1223 ((gI s2 1223) &&& ((shl (1) p0) ^^^ (-1)))) 1224) ||| v3))).bind fun q4 =>
      let v4 := q4.1
      let s4 := q4.2
      some (((gI (sL s3 1224 ((gL (sI s2 1223 ((gI s2 1223) &&& ((shl (1) p0) ^^^ (-1)))) 1224) ||| v3)) 1219) - v4), s4)
    ) else (
      some ((-3), s2)
    )
  ) else (
    some ((-1), s1)
  )
set_option maxRecDepth 50000 in
theorem m_X5_grow (p0 : Int32) (σ : PS) {v : Int32} {σ' : PS} (h : F_X5_grow p0 σ = some (v, σ')) : PR 147 [.ref 19, .int p0] σ (some (.int v)) σ' := by
  refine PR.enter (L := [some (.ref 19), some (.int p0)]) uT_147 uD_147 rfl rfl ?_
  unfold F_X5_grow at h
  refine RU.blk (C' := (2, [some (.ref 19), some (.int p0)], [.int p0, .ref 19], σ)) 2 rfl ?_
  obtain ⟨⟨v1, s1⟩, hk, h⟩ := Option.bind_eq_some_iff.mp h
  dsimp only at h
  refine RU.call (as := [.ref 19, .int p0]) (rest := []) (u := some (.int v1)) (C' := (5, [some (.ref 19), some (.int p0)], [.int v1], s1)) rfl rfl (m_X5_noLooker p0 σ hk) rfl rfl ?_
  refine RU.blk (C' := (bif cEq v1 0 then 10 else 8, [some (.ref 19), some (.int p0)], [], s1)) 1 rfl ?_
  rcases cnd_some h with ⟨hc, h⟩ | ⟨hc, h⟩
  · refine RU.tt hc ?_
    refine RU.blk (C' := (15, [some (.ref 19), some (.int p0)], [.int p0, .int (gI s1 1223)], s1)) 3 rfl ?_
    obtain ⟨⟨v2, s2⟩, hk, h⟩ := Option.bind_eq_some_iff.mp h
    dsimp only at h
    refine RU.call (as := [.int (gI s1 1223), .int p0]) (rest := []) (u := some (.int v2)) (C' := (18, [some (.ref 19), some (.int p0)], [.int v2], s2)) rfl rfl (m_X5_isIn (gI s1 1223) p0 s1 hk) rfl rfl ?_
    refine RU.blk (C' := (bif cNe v2 0 then 24 else 21, [some (.ref 19), some (.int p0)], [], s2)) 1 rfl ?_
    rcases cnd_some h with ⟨hc, h⟩ | ⟨hc, h⟩
    · refine RU.tt hc ?_
      refine RU.blk (C' := (44, [some (.ref 19), some (.int p0)], [.ref 19, .long (gL (sI s2 1223 ((gI s2 1223) &&& ((shl (1) p0) ^^^ (-1)))) 1224), .ref 19], (sI s2 1223 ((gI s2 1223) &&& ((shl (1) p0) ^^^ (-1)))))) 14 rfl ?_
      obtain ⟨⟨v3, s3⟩, hk, h⟩ := Option.bind_eq_some_iff.mp h
      dsimp only at h
      refine RU.call (as := [.ref 19]) (rest := [.long (gL (sI s2 1223 ((gI s2 1223) &&& ((shl (1) p0) ^^^ (-1)))) 1224), .ref 19]) (u := some (.long v3)) (C' := (47, [some (.ref 19), some (.int p0)], [.long v3, .long (gL (sI s2 1223 ((gI s2 1223) &&& ((shl (1) p0) ^^^ (-1)))) 1224), .ref 19], s3)) rfl rfl (m_X5_over (sI s2 1223 ((gI s2 1223) &&& ((shl (1) p0) ^^^ (-1)))) hk) rfl rfl ?_
      refine RU.blk (C' := (60, [some (.ref 19), some (.int p0)], [.long (Int32.toInt64 (gI (sL s3 1224 ((gL (sI s2 1223 ((gI s2 1223) &&& ((shl (1) p0) ^^^ (-1)))) 1224) ||| v3)) 1223)), .int (gI (sL s3 1224 ((gL (sI s2 1223 ((gI s2 1223) &&& ((shl (1) p0) ^^^ (-1)))) 1224) ||| v3)) 1219)], (sL s3 1224 ((gL (sI s2 1223 ((gI s2 1223) &&& ((shl (1) p0) ^^^ (-1)))) 1224) ||| v3)))) 7 rfl ?_
      obtain ⟨⟨v4, s4⟩, hk, h⟩ := Option.bind_eq_some_iff.mp h
      dsimp only at h
      refine RU.call (as := [.long (Int32.toInt64 (gI (sL s3 1224 ((gL (sI s2 1223 ((gI s2 1223) &&& ((shl (1) p0) ^^^ (-1)))) 1224) ||| v3)) 1223))]) (rest := [.int (gI (sL s3 1224 ((gL (sI s2 1223 ((gI s2 1223) &&& ((shl (1) p0) ^^^ (-1)))) 1224) ||| v3)) 1219)]) (u := some (.int v4)) (C' := (63, [some (.ref 19), some (.int p0)], [.int v4, .int (gI (sL s3 1224 ((gL (sI s2 1223 ((gI s2 1223) &&& ((shl (1) p0) ^^^ (-1)))) 1224) ||| v3)) 1219)], s4)) rfl rfl (m_X5_bits (Int32.toInt64 (gI (sL s3 1224 ((gL (sI s2 1223 ((gI s2 1223) &&& ((shl (1) p0) ^^^ (-1)))) 1224) ||| v3)) 1223)) (sL s3 1224 ((gL (sI s2 1223 ((gI s2 1223) &&& ((shl (1) p0) ^^^ (-1)))) 1224) ||| v3)) hk) rfl rfl ?_
      refine RU.blk (C' := (64, [some (.ref 19), some (.int p0)], [.int ((gI (sL s3 1224 ((gL (sI s2 1223 ((gI s2 1223) &&& ((shl (1) p0) ^^^ (-1)))) 1224) ||| v3)) 1219) - v4)], s4)) 1 rfl ?_
      obtain ⟨rfl, rfl⟩ := ret_inj h
      exact RU.ret rfl rfl rfl
    · refine RU.ff hc ?_
      refine RU.blk (C' := (23, [some (.ref 19), some (.int p0)], [.int (-3)], s2)) 1 rfl ?_
      obtain ⟨rfl, rfl⟩ := ret_inj h
      exact RU.ret rfl rfl rfl
  · refine RU.ff hc ?_
    refine RU.blk (C' := (9, [some (.ref 19), some (.int p0)], [.int (-1)], s1)) 1 rfl ?_
    obtain ⟨rfl, rfl⟩ := ret_inj h
    exact RU.ret rfl rfl rfl
noncomputable def F_X5_seen  (σ : PS) : Option (Int64 × PS) :=
  bif cNe (gI σ 1219) 0 then (
    some ((gL σ 1224), σ)
  ) else (
    (F_X5_lost σ).bind fun q1 =>
    let v1 := q1.1
    let s1 := q1.2
    some (v1, s1)
  )
set_option maxRecDepth 50000 in
theorem m_X5_seen  (σ : PS) {v : Int64} {σ' : PS} (h : F_X5_seen σ = some (v, σ')) : PR 148 [.ref 19] σ (some (.long v)) σ' := by
  refine PR.enter (L := [some (.ref 19)]) uT_148 uD_148 rfl rfl ?_
  unfold F_X5_seen at h
  refine RU.blk (C' := (bif cNe (gI σ 1219) 0 then 13 else 7, [some (.ref 19)], [], σ)) 3 rfl ?_
  rcases cnd_some h with ⟨hc, h⟩ | ⟨hc, h⟩
  · refine RU.tt hc ?_
    refine RU.blk (C' := (17, [some (.ref 19)], [.long (gL σ 1224)], σ)) 2 rfl ?_
    obtain ⟨rfl, rfl⟩ := ret_inj h
    exact RU.ret rfl rfl rfl
  · refine RU.ff hc ?_
    obtain ⟨⟨v1, s1⟩, hk, h⟩ := Option.bind_eq_some_iff.mp h
    dsimp only at h
    refine RU.call (as := []) (rest := []) (u := some (.long v1)) (C' := (10, [some (.ref 19)], [.long v1], s1)) rfl rfl (m_X5_lost σ hk) rfl rfl ?_
    refine RU.blk (C' := (17, [some (.ref 19)], [.long v1], s1)) 1 rfl ?_
    obtain ⟨rfl, rfl⟩ := ret_inj h
    exact RU.ret rfl rfl rfl
noncomputable def F_X5_isPlace (p0 : Int32) (p1 : Int32) (σ : PS) : Option (Int32 × PS) :=
  (F_X5_in (Int32.toInt64 p0) 0 (Int32.toInt64 ((gI σ 1217) - (gI σ 1219))) σ).bind fun q1 =>
  let v1 := q1.1
  let s1 := q1.2
  bif cEq v1 0 then (
    some ((0), s1)
  ) else (
    (F_X5_in (Int32.toInt64 p1) 0 ((Int32.toInt64 (gI s1 1218)) - 1) s1).bind fun q2 =>
    let v2 := q2.1
    let s2 := q2.2
    bif cEq v2 0 then (
      some ((0), s2)
    ) else (
      some ((1), s2)
    )
  )
set_option maxRecDepth 50000 in
theorem m_X5_isPlace (p0 : Int32) (p1 : Int32) (σ : PS) {v : Int32} {σ' : PS} (h : F_X5_isPlace p0 p1 σ = some (v, σ')) : PR 149 [.ref 19, .int p0, .int p1] σ (some (.int v)) σ' := by
  refine PR.enter (L := [some (.ref 19), some (.int p0), some (.int p1)]) uT_149 uD_149 rfl rfl ?_
  unfold F_X5_isPlace at h
  refine RU.blk (C' := (13, [some (.ref 19), some (.int p0), some (.int p1)], [.long (Int32.toInt64 ((gI σ 1217) - (gI σ 1219))), .long 0, .long (Int32.toInt64 p0)], σ)) 9 rfl ?_
  obtain ⟨⟨v1, s1⟩, hk, h⟩ := Option.bind_eq_some_iff.mp h
  dsimp only at h
  refine RU.call (as := [.long (Int32.toInt64 p0), .long 0, .long (Int32.toInt64 ((gI σ 1217) - (gI σ 1219)))]) (rest := []) (u := some (.int v1)) (C' := (16, [some (.ref 19), some (.int p0), some (.int p1)], [.int v1], s1)) rfl rfl (m_X5_in (Int32.toInt64 p0) 0 (Int32.toInt64 ((gI σ 1217) - (gI σ 1219))) σ hk) rfl rfl ?_
  refine RU.blk (C' := (bif cEq v1 0 then 39 else 19, [some (.ref 19), some (.int p0), some (.int p1)], [], s1)) 1 rfl ?_
  rcases cnd_some h with ⟨hc, h⟩ | ⟨hc, h⟩
  · refine RU.tt hc ?_
    refine RU.blk (C' := (40, [some (.ref 19), some (.int p0), some (.int p1)], [.int (0)], s1)) 1 rfl ?_
    obtain ⟨rfl, rfl⟩ := ret_inj h
    exact RU.ret rfl rfl rfl
  · refine RU.ff hc ?_
    refine RU.blk (C' := (29, [some (.ref 19), some (.int p0), some (.int p1)], [.long ((Int32.toInt64 (gI s1 1218)) - 1), .long 0, .long (Int32.toInt64 p1)], s1)) 8 rfl ?_
    obtain ⟨⟨v2, s2⟩, hk, h⟩ := Option.bind_eq_some_iff.mp h
    dsimp only at h
    refine RU.call (as := [.long (Int32.toInt64 p1), .long 0, .long ((Int32.toInt64 (gI s1 1218)) - 1)]) (rest := []) (u := some (.int v2)) (C' := (32, [some (.ref 19), some (.int p0), some (.int p1)], [.int v2], s2)) rfl rfl (m_X5_in (Int32.toInt64 p1) 0 ((Int32.toInt64 (gI s1 1218)) - 1) s1 hk) rfl rfl ?_
    refine RU.blk (C' := (bif cEq v2 0 then 39 else 35, [some (.ref 19), some (.int p0), some (.int p1)], [], s2)) 1 rfl ?_
    rcases cnd_some h with ⟨hc, h⟩ | ⟨hc, h⟩
    · refine RU.tt hc ?_
      refine RU.blk (C' := (40, [some (.ref 19), some (.int p0), some (.int p1)], [.int (0)], s2)) 1 rfl ?_
      obtain ⟨rfl, rfl⟩ := ret_inj h
      exact RU.ret rfl rfl rfl
    · refine RU.ff hc ?_
      refine RU.blk (C' := (40, [some (.ref 19), some (.int p0), some (.int p1)], [.int (1)], s2)) 2 rfl ?_
      obtain ⟨rfl, rfl⟩ := ret_inj h
      exact RU.ret rfl rfl rfl
noncomputable def F_X5_columnBy (p0 : Int32) (σ : PS) : Option (Int32 × PS) :=
  bif cNe p0 (1) then (
    bif cNe p0 (3) then (
      some ((0), σ)
    ) else (
      some ((-1), σ)
    )
  ) else (
    some ((1), σ)
  )
set_option maxRecDepth 50000 in
theorem m_X5_columnBy (p0 : Int32) (σ : PS) {v : Int32} {σ' : PS} (h : F_X5_columnBy p0 σ = some (v, σ')) : PR 150 [.int p0] σ (some (.int v)) σ' := by
  refine PR.enter (L := [some (.int p0)]) uT_150 uD_150 rfl rfl ?_
  unfold F_X5_columnBy at h
  refine RU.blk (C' := (bif cNe p0 (1) then 9 else 5, [some (.int p0)], [], σ)) 3 rfl ?_
  rcases cnd_some h with ⟨hc, h⟩ | ⟨hc, h⟩
  · refine RU.tt hc ?_
    refine RU.blk (C' := (bif cNe p0 (3) then 18 else 14, [some (.int p0)], [], σ)) 3 rfl ?_
    rcases cnd_some h with ⟨hc, h⟩ | ⟨hc, h⟩
    · refine RU.tt hc ?_
      refine RU.blk (C' := (19, [some (.int p0)], [.int (0)], σ)) 1 rfl ?_
      obtain ⟨rfl, rfl⟩ := ret_inj h
      exact RU.ret rfl rfl rfl
    · refine RU.ff hc ?_
      refine RU.blk (C' := (19, [some (.int p0)], [.int (-1)], σ)) 2 rfl ?_
      obtain ⟨rfl, rfl⟩ := ret_inj h
      exact RU.ret rfl rfl rfl
  · refine RU.ff hc ?_
    refine RU.blk (C' := (19, [some (.int p0)], [.int (1)], σ)) 2 rfl ?_
    obtain ⟨rfl, rfl⟩ := ret_inj h
    exact RU.ret rfl rfl rfl
noncomputable def F_X5_rowBy (p0 : Int32) (σ : PS) : Option (Int32 × PS) :=
  bif cNe p0 0 then (
    bif cNe p0 (2) then (
      some ((0), σ)
    ) else (
      some ((1), σ)
    )
  ) else (
    some ((-1), σ)
  )
set_option maxRecDepth 50000 in
theorem m_X5_rowBy (p0 : Int32) (σ : PS) {v : Int32} {σ' : PS} (h : F_X5_rowBy p0 σ = some (v, σ')) : PR 151 [.int p0] σ (some (.int v)) σ' := by
  refine PR.enter (L := [some (.int p0)]) uT_151 uD_151 rfl rfl ?_
  unfold F_X5_rowBy at h
  refine RU.blk (C' := (bif cNe p0 0 then 8 else 4, [some (.int p0)], [], σ)) 2 rfl ?_
  rcases cnd_some h with ⟨hc, h⟩ | ⟨hc, h⟩
  · refine RU.tt hc ?_
    refine RU.blk (C' := (bif cNe p0 (2) then 17 else 13, [some (.int p0)], [], σ)) 3 rfl ?_
    rcases cnd_some h with ⟨hc, h⟩ | ⟨hc, h⟩
    · refine RU.tt hc ?_
      refine RU.blk (C' := (18, [some (.int p0)], [.int (0)], σ)) 1 rfl ?_
      obtain ⟨rfl, rfl⟩ := ret_inj h
      exact RU.ret rfl rfl rfl
    · refine RU.ff hc ?_
      refine RU.blk (C' := (18, [some (.int p0)], [.int (1)], σ)) 2 rfl ?_
      obtain ⟨rfl, rfl⟩ := ret_inj h
      exact RU.ret rfl rfl rfl
  · refine RU.ff hc ?_
    refine RU.blk (C' := (18, [some (.int p0)], [.int (-1)], σ)) 2 rfl ?_
    obtain ⟨rfl, rfl⟩ := ret_inj h
    exact RU.ret rfl rfl rfl
noncomputable def F_X5_steps (p0 : Int32) (σ : PS) : Option (Int32 × PS) :=
  (F_X5_columnBy p0 σ).bind fun q1 =>
  let v1 := q1.1
  let s1 := q1.2
  (F_X5_rowBy p0 s1).bind fun q2 =>
  let v2 := q2.1
  let s2 := q2.2
  (F_X5_isPlace ((gI σ 1220) + v1) ((gI s1 1221) + v2) s2).bind fun q3 =>
  let v3 := q3.1
  let s3 := q3.2
  bif cNe v3 0 then (
    (F_X5_over (sI (sI s3 1220 ((gI σ 1220) + v1)) 1221 ((gI s1 1221) + v2))).bind fun q4 =>
    let v4 := q4.1
    let s4 := q4.2
    some ((1), (sL s4 1224 ((gL (sI (sI s3 1220 ((gI σ 1220) + v1)) 1221 ((gI s1 1221) + v2)) 1224) ||| v4)))
  ) else (
    some ((0), s3)
  )
set_option maxRecDepth 50000 in
theorem m_X5_steps (p0 : Int32) (σ : PS) {v : Int32} {σ' : PS} (h : F_X5_steps p0 σ = some (v, σ')) : PR 152 [.ref 19, .int p0] σ (some (.int v)) σ' := by
  refine PR.enter (L := [some (.ref 19), some (.int p0), none, none]) uT_152 uD_152 rfl rfl ?_
  unfold F_X5_steps at h
  refine RU.blk (C' := (5, [some (.ref 19), some (.int p0), none, none], [.int p0, .int (gI σ 1220)], σ)) 3 rfl ?_
  obtain ⟨⟨v1, s1⟩, hk, h⟩ := Option.bind_eq_some_iff.mp h
  dsimp only at h
  refine RU.call (as := [.int p0]) (rest := [.int (gI σ 1220)]) (u := some (.int v1)) (C' := (8, [some (.ref 19), some (.int p0), none, none], [.int v1, .int (gI σ 1220)], s1)) rfl rfl (m_X5_columnBy p0 σ hk) rfl rfl ?_
  refine RU.blk (C' := (15, [some (.ref 19), some (.int p0), some (.int ((gI σ 1220) + v1)), none], [.int p0, .int (gI s1 1221)], s1)) 5 rfl ?_
  obtain ⟨⟨v2, s2⟩, hk, h⟩ := Option.bind_eq_some_iff.mp h
  dsimp only at h
  refine RU.call (as := [.int p0]) (rest := [.int (gI s1 1221)]) (u := some (.int v2)) (C' := (18, [some (.ref 19), some (.int p0), some (.int ((gI σ 1220) + v1)), none], [.int v2, .int (gI s1 1221)], s2)) rfl rfl (m_X5_rowBy p0 s1 hk) rfl rfl ?_
  refine RU.blk (C' := (23, [some (.ref 19), some (.int p0), some (.int ((gI σ 1220) + v1)), some (.int ((gI s1 1221) + v2))], [.int ((gI s1 1221) + v2), .int ((gI σ 1220) + v1), .ref 19], s2)) 5 rfl ?_
  obtain ⟨⟨v3, s3⟩, hk, h⟩ := Option.bind_eq_some_iff.mp h
  dsimp only at h
  refine RU.call (as := [.ref 19, .int ((gI σ 1220) + v1), .int ((gI s1 1221) + v2)]) (rest := []) (u := some (.int v3)) (C' := (26, [some (.ref 19), some (.int p0), some (.int ((gI σ 1220) + v1)), some (.int ((gI s1 1221) + v2))], [.int v3], s3)) rfl rfl (m_X5_isPlace ((gI σ 1220) + v1) ((gI s1 1221) + v2) s2 hk) rfl rfl ?_
  refine RU.blk (C' := (bif cNe v3 0 then 31 else 29, [some (.ref 19), some (.int p0), some (.int ((gI σ 1220) + v1)), some (.int ((gI s1 1221) + v2))], [], s3)) 1 rfl ?_
  rcases cnd_some h with ⟨hc, h⟩ | ⟨hc, h⟩
  · refine RU.tt hc ?_
    refine RU.blk (C' := (47, [some (.ref 19), some (.int p0), some (.int ((gI σ 1220) + v1)), some (.int ((gI s1 1221) + v2))], [.ref 19, .long (gL (sI (sI s3 1220 ((gI σ 1220) + v1)) 1221 ((gI s1 1221) + v2)) 1224), .ref 19], (sI (sI s3 1220 ((gI σ 1220) + v1)) 1221 ((gI s1 1221) + v2)))) 10 rfl ?_
    obtain ⟨⟨v4, s4⟩, hk, h⟩ := Option.bind_eq_some_iff.mp h
    dsimp only at h
    refine RU.call (as := [.ref 19]) (rest := [.long (gL (sI (sI s3 1220 ((gI σ 1220) + v1)) 1221 ((gI s1 1221) + v2)) 1224), .ref 19]) (u := some (.long v4)) (C' := (50, [some (.ref 19), some (.int p0), some (.int ((gI σ 1220) + v1)), some (.int ((gI s1 1221) + v2))], [.long v4, .long (gL (sI (sI s3 1220 ((gI σ 1220) + v1)) 1221 ((gI s1 1221) + v2)) 1224), .ref 19], s4)) rfl rfl (m_X5_over (sI (sI s3 1220 ((gI σ 1220) + v1)) 1221 ((gI s1 1221) + v2)) hk) rfl rfl ?_
    refine RU.blk (C' := (55, [some (.ref 19), some (.int p0), some (.int ((gI σ 1220) + v1)), some (.int ((gI s1 1221) + v2))], [.int (1)], (sL s4 1224 ((gL (sI (sI s3 1220 ((gI σ 1220) + v1)) 1221 ((gI s1 1221) + v2)) 1224) ||| v4)))) 3 rfl ?_
    obtain ⟨rfl, rfl⟩ := ret_inj h
    exact RU.ret rfl rfl rfl
  · refine RU.ff hc ?_
    refine RU.blk (C' := (30, [some (.ref 19), some (.int p0), some (.int ((gI σ 1220) + v1)), some (.int ((gI s1 1221) + v2))], [.int (0)], s3)) 1 rfl ?_
    obtain ⟨rfl, rfl⟩ := ret_inj h
    exact RU.ret rfl rfl rfl
noncomputable def F_X5_step (p0 : Int32) (σ : PS) : Option (Int32 × PS) :=
  (F_X5_in (Int32.toInt64 p0) 0 (3) σ).bind fun q1 =>
  let v1 := q1.1
  let s1 := q1.2
  bif cNe v1 0 then (
    (F_X5_bits (gL s1 1224) s1).bind fun q2 =>
    let v2 := q2.1
    let s2 := q2.2
    bif cEq (gI s2 1219) 0 then (
      some ((-3), s2)
    ) else (
      (F_X5_steps p0 s2).bind fun q3 =>
      let v3 := q3.1
      let s3 := q3.2
      bif cNe v3 0 then (
        (F_X5_bits (gL (sI s3 1222 ((gI s3 1222) + (1))) 1224) (sI s3 1222 ((gI s3 1222) + (1)))).bind fun q4 =>
        let v4 := q4.1
        let s4 := q4.2
        some ((v4 - v2), s4)
      ) else (
        some ((-3), s3)
      )
    )
  ) else (
    some ((-2), s1)
  )
set_option maxRecDepth 50000 in
theorem m_X5_step (p0 : Int32) (σ : PS) {v : Int32} {σ' : PS} (h : F_X5_step p0 σ = some (v, σ')) : PR 153 [.ref 19, .int p0] σ (some (.int v)) σ' := by
  refine PR.enter (L := [some (.ref 19), some (.int p0), none]) uT_153 uD_153 rfl rfl ?_
  unfold F_X5_step at h
  refine RU.blk (C' := (6, [some (.ref 19), some (.int p0), none], [.long (3), .long 0, .long (Int32.toInt64 p0)], σ)) 4 rfl ?_
  obtain ⟨⟨v1, s1⟩, hk, h⟩ := Option.bind_eq_some_iff.mp h
  dsimp only at h
  refine RU.call (as := [.long (Int32.toInt64 p0), .long 0, .long (3)]) (rest := []) (u := some (.int v1)) (C' := (9, [some (.ref 19), some (.int p0), none], [.int v1], s1)) rfl rfl (m_X5_in (Int32.toInt64 p0) 0 (3) σ hk) rfl rfl ?_
  refine RU.blk (C' := (bif cNe v1 0 then 15 else 12, [some (.ref 19), some (.int p0), none], [], s1)) 1 rfl ?_
  rcases cnd_some h with ⟨hc, h⟩ | ⟨hc, h⟩
  · refine RU.tt hc ?_
    refine RU.blk (C' := (19, [some (.ref 19), some (.int p0), none], [.long (gL s1 1224)], s1)) 2 rfl ?_
    obtain ⟨⟨v2, s2⟩, hk, h⟩ := Option.bind_eq_some_iff.mp h
    dsimp only at h
    refine RU.call (as := [.long (gL s1 1224)]) (rest := []) (u := some (.int v2)) (C' := (22, [some (.ref 19), some (.int p0), none], [.int v2], s2)) rfl rfl (m_X5_bits (gL s1 1224) s1 hk) rfl rfl ?_
    refine RU.blk (C' := (bif cEq (gI s2 1219) 0 then 38 else 30, [some (.ref 19), some (.int p0), some (.int v2)], [], s2)) 4 rfl ?_
    rcases cnd_some h with ⟨hc, h⟩ | ⟨hc, h⟩
    · refine RU.tt hc ?_
      refine RU.blk (C' := (40, [some (.ref 19), some (.int p0), some (.int v2)], [.int (-3)], s2)) 1 rfl ?_
      obtain ⟨rfl, rfl⟩ := ret_inj h
      exact RU.ret rfl rfl rfl
    · refine RU.ff hc ?_
      refine RU.blk (C' := (32, [some (.ref 19), some (.int p0), some (.int v2)], [.int p0, .ref 19], s2)) 2 rfl ?_
      obtain ⟨⟨v3, s3⟩, hk, h⟩ := Option.bind_eq_some_iff.mp h
      dsimp only at h
      refine RU.call (as := [.ref 19, .int p0]) (rest := []) (u := some (.int v3)) (C' := (35, [some (.ref 19), some (.int p0), some (.int v2)], [.int v3], s3)) rfl rfl (m_X5_steps p0 s2 hk) rfl rfl ?_
      refine RU.blk (C' := (bif cNe v3 0 then 41 else 38, [some (.ref 19), some (.int p0), some (.int v2)], [], s3)) 1 rfl ?_
      rcases cnd_some h with ⟨hc, h⟩ | ⟨hc, h⟩
      · refine RU.tt hc ?_
        refine RU.blk (C' := (55, [some (.ref 19), some (.int p0), some (.int v2)], [.long (gL (sI s3 1222 ((gI s3 1222) + (1))) 1224)], (sI s3 1222 ((gI s3 1222) + (1))))) 8 rfl ?_
        obtain ⟨⟨v4, s4⟩, hk, h⟩ := Option.bind_eq_some_iff.mp h
        dsimp only at h
        refine RU.call (as := [.long (gL (sI s3 1222 ((gI s3 1222) + (1))) 1224)]) (rest := []) (u := some (.int v4)) (C' := (58, [some (.ref 19), some (.int p0), some (.int v2)], [.int v4], s4)) rfl rfl (m_X5_bits (gL (sI s3 1222 ((gI s3 1222) + (1))) 1224) (sI s3 1222 ((gI s3 1222) + (1))) hk) rfl rfl ?_
        refine RU.blk (C' := (60, [some (.ref 19), some (.int p0), some (.int v2)], [.int (v4 - v2)], s4)) 2 rfl ?_
        obtain ⟨rfl, rfl⟩ := ret_inj h
        exact RU.ret rfl rfl rfl
      · refine RU.ff hc ?_
        refine RU.blk (C' := (40, [some (.ref 19), some (.int p0), some (.int v2)], [.int (-3)], s3)) 1 rfl ?_
        obtain ⟨rfl, rfl⟩ := ret_inj h
        exact RU.ret rfl rfl rfl
  · refine RU.ff hc ?_
    refine RU.blk (C' := (14, [some (.ref 19), some (.int p0), none], [.int (-2)], s1)) 1 rfl ?_
    obtain ⟨rfl, rfl⟩ := ret_inj h
    exact RU.ret rfl rfl rfl
noncomputable def F_X5_keepAll  (σ : PS) : Option (Unit × PS) :=
  some ((), (sL (sI (sI σ 1237 (gI σ 1220)) 1238 (gI (sI σ 1237 (gI σ 1220)) 1221)) 1239 (gL (sI (sI σ 1237 (gI σ 1220)) 1238 (gI (sI σ 1237 (gI σ 1220)) 1221)) 1224)))
set_option maxRecDepth 50000 in
theorem m_X5_keepAll  (σ : PS) {v : Unit} {σ' : PS} (h : F_X5_keepAll σ = some (v, σ')) : PR 154 [.ref 19] σ (none) σ' := by
  refine PR.enter (L := [some (.ref 19)]) uT_154 uD_154 rfl rfl ?_
  unfold F_X5_keepAll at h
  refine RU.blk (C' := (24, [some (.ref 19)], [], (sL (sI (sI σ 1237 (gI σ 1220)) 1238 (gI (sI σ 1237 (gI σ 1220)) 1221)) 1239 (gL (sI (sI σ 1237 (gI σ 1220)) 1238 (gI (sI σ 1237 (gI σ 1220)) 1221)) 1224)))) 12 rfl ?_
  obtain ⟨rfl, rfl⟩ := ret_inj h
  exact RU.ret rfl rfl rfl
noncomputable def F_X5_bringBack  (σ : PS) : Option (Unit × PS) :=
  some ((), (sL (sI (sI σ 1220 (gI σ 1237)) 1221 (gI (sI σ 1220 (gI σ 1237)) 1238)) 1224 (gL (sI (sI σ 1220 (gI σ 1237)) 1221 (gI (sI σ 1220 (gI σ 1237)) 1238)) 1239)))
set_option maxRecDepth 50000 in
theorem m_X5_bringBack  (σ : PS) {v : Unit} {σ' : PS} (h : F_X5_bringBack σ = some (v, σ')) : PR 155 [.ref 19] σ (none) σ' := by
  refine PR.enter (L := [some (.ref 19)]) uT_155 uD_155 rfl rfl ?_
  unfold F_X5_bringBack at h
  refine RU.blk (C' := (24, [some (.ref 19)], [], (sL (sI (sI σ 1220 (gI σ 1237)) 1221 (gI (sI σ 1220 (gI σ 1237)) 1238)) 1224 (gL (sI (sI σ 1220 (gI σ 1237)) 1221 (gI (sI σ 1220 (gI σ 1237)) 1238)) 1239)))) 12 rfl ?_
  obtain ⟨rfl, rfl⟩ := ret_inj h
  exact RU.ret rfl rfl rfl
noncomputable def L_X5_voyageBy  : Nat → Nat → Int32 → Int32 → Int32 → Int32 → Int32 → Int32 → Int32 → Int32 → PS → Option (Int32 × PS)
  | 0, _, _, _, _, _, _, _, _, _, _ => none
  | n + 1, hd, x1, x2, x3, x4, x5, x6, x7, x8, σ => 
    bif Nat.beq hd 14 then (
      bif cGe x7 x2 then (
        bif cNe x3 (1) then (
          bif cLt x4 0 then (
            bif cNe x3 0 then (
              bif cNe x3 (2) then (
                bif cNe x3 (3) then (
                  (F_X5_placeOf (0) σ).bind fun q1 =>
                  let v1 := q1.1
                  let s1 := q1.2
                  some (v1, s1)
                ) else (
                  some (x6, σ)
                )
              ) else (
                some (x5, σ)
              )
            ) else (
              (F_X5_bits (gL σ 1224) σ).bind fun q2 =>
              let v2 := q2.1
              let s2 := q2.2
              (F_X5_bits (gL s2 1239) s2).bind fun q3 =>
              let v3 := q3.1
              let s3 := q3.2
              some ((v2 - v3), s3)
            )
          ) else (
            some (((-100) - x4), σ)
          )
        ) else (
          some (x4, σ)
        )
      ) else (
        bif cGe x4 0 then (
          bif cNe x3 (1) then (
            bif cLt x4 0 then (
              bif cNe x3 0 then (
                bif cNe x3 (2) then (
                  bif cNe x3 (3) then (
                    (F_X5_placeOf (0) σ).bind fun q4 =>
                    let v4 := q4.1
                    let s4 := q4.2
                    some (v4, s4)
                  ) else (
                    some (x6, σ)
                  )
                ) else (
                  some (x5, σ)
                )
              ) else (
                (F_X5_bits (gL σ 1224) σ).bind fun q5 =>
                let v5 := q5.1
                let s5 := q5.2
                (F_X5_bits (gL s5 1239) s5).bind fun q6 =>
                let v6 := q6.1
                let s6 := q6.2
                some ((v5 - v6), s6)
              )
            ) else (
              some (((-100) - x4), σ)
            )
          ) else (
            some (x4, σ)
          )
        ) else (
          bif vin (x1 + x7) 240 then
          (F_X5_steps (gA σ 32 (Int32.toNatClampNeg (x1 + x7))) σ).bind fun q7 =>
          let v7 := q7.1
          let s7 := q7.2
          bif cEq v7 0 then (
            L_X5_voyageBy n  53 x1 x2 x3 x7 x5 x6 x7 (0) s7
          ) else (
            L_X5_voyageBy n  53 x1 x2 x3 (-9) x5 x6 x7 (0) s7
          )
          else none
        )
      )
    ) else
    bif Nat.beq hd 53 then (
      bif cGe x8 (gI σ 1219) then (
        L_X5_voyageBy n  14 x1 x2 x3 x4 x5 x6 (x7 + (1)) 0 σ
      ) else (
        (F_X5_isIn (gI σ 1223) x8 σ).bind fun q8 =>
        let v8 := q8.1
        let s8 := q8.2
        bif cEq v8 0 then (
          (F_X5_placeOf x8 s8).bind fun q9 =>
          let v9 := q9.1
          let s9 := q9.2
          bif vin v9 36 then
          (F_X5_tells x8 (gA s9 20 (Int32.toNatClampNeg v9)) s9).bind fun q10 =>
          let v10 := q10.1
          let s10 := q10.2
          bif cGe v10 0 then (
            bif cLe v10 x6 then (
              L_X5_voyageBy n  53 x1 x2 x3 x4 (x5 + v10) x6 x7 (x8 + (1)) s10
            ) else (
              L_X5_voyageBy n  53 x1 x2 x3 x4 (x5 + v10) v10 x7 (x8 + (1)) s10
            )
          ) else (
            bif cLe v10 x6 then (
              L_X5_voyageBy n  53 x1 x2 x3 x4 (x5 + (0)) x6 x7 (x8 + (1)) s10
            ) else (
              L_X5_voyageBy n  53 x1 x2 x3 x4 (x5 + (0)) v10 x7 (x8 + (1)) s10
            )
          )
          else none
        ) else (
          bif cLe (-9) x6 then (
            L_X5_voyageBy n  53 x1 x2 x3 x4 (x5 + (0)) x6 x7 (x8 + (1)) s8
          ) else (
            L_X5_voyageBy n  53 x1 x2 x3 x4 (x5 + (0)) (-9) x7 (x8 + (1)) s8
          )
        )
      )
    ) else
    none
set_option maxRecDepth 50000 in
theorem ml_X5_voyageBy  (n : Nat) : (∀ (x1 : Int32) (x2 : Int32) (x3 : Int32) (x4 : Int32) (x5 : Int32) (x6 : Int32) (x7 : Int32) (u8 : Option Value) (u9 : Option Value) (σ : PS) (v : Int32) (σ' : PS), L_X5_voyageBy n 14 x1 x2 x3 x4 x5 x6 x7 0 σ = some (v, σ') → RU ubX5_voyageBy 3 70 (14, [some (.ref 19), some (.int x1), some (.int x2), some (.int x3), some (.int x4), some (.int x5), some (.int x6), some (.int x7), u8, u9], [], σ) (some (.int v)) σ') ∧ (∀ (x1 : Int32) (x2 : Int32) (x3 : Int32) (x4 : Int32) (x5 : Int32) (x6 : Int32) (x7 : Int32) (x8 : Int32) (u9 : Option Value) (σ : PS) (v : Int32) (σ' : PS), L_X5_voyageBy n 53 x1 x2 x3 x4 x5 x6 x7 x8 σ = some (v, σ') → RU ubX5_voyageBy 3 70 (53, [some (.ref 19), some (.int x1), some (.int x2), some (.int x3), some (.int x4), some (.int x5), some (.int x6), some (.int x7), some (.int x8), u9], [], σ) (some (.int v)) σ') := by
  induction n with
  | zero =>
    refine ⟨?_, ?_⟩
    · intro x1 x2 x3 x4 x5 x6 x7 u8 u9 σ v σ' h; exact absurd (show (none : Option (Int32 × PS)) = some (v, σ') from h) (by simp)
    · intro x1 x2 x3 x4 x5 x6 x7 x8 u9 σ v σ' h; exact absurd (show (none : Option (Int32 × PS)) = some (v, σ') from h) (by simp)
  | succ n ih =>
    refine ⟨?_, ?_⟩
    · intro x1 x2 x3 x4 x5 x6 x7 u8 u9 σ v σ' h
      rw [L_X5_voyageBy] at h
      rcases cnd_some h with ⟨hc, h⟩ | ⟨hc, h⟩
      rotate_left
      · exact absurd hc (by decide)
      refine RU.blk (C' := (bif cGe x7 x2 then 142 else 20, [some (.ref 19), some (.int x1), some (.int x2), some (.int x3), some (.int x4), some (.int x5), some (.int x6), some (.int x7), none, none], [], σ)) 3 rfl ?_
      rcases cnd_some h with ⟨hc, h⟩ | ⟨hc, h⟩
      · refine RU.tt hc ?_
        refine RU.blk (C' := (bif cNe x3 (1) then 150 else 147, [some (.ref 19), some (.int x1), some (.int x2), some (.int x3), some (.int x4), some (.int x5), some (.int x6), some (.int x7), none, none], [], σ)) 3 rfl ?_
        rcases cnd_some h with ⟨hc, h⟩ | ⟨hc, h⟩
        · refine RU.tt hc ?_
          refine RU.blk (C' := (bif cLt x4 0 then 161 else 155, [some (.ref 19), some (.int x1), some (.int x2), some (.int x3), some (.int x4), some (.int x5), some (.int x6), some (.int x7), none, none], [], σ)) 2 rfl ?_
          rcases cnd_some h with ⟨hc, h⟩ | ⟨hc, h⟩
          · refine RU.tt hc ?_
            refine RU.blk (C' := (bif cNe x3 0 then 183 else 165, [some (.ref 19), some (.int x1), some (.int x2), some (.int x3), some (.int x4), some (.int x5), some (.int x6), some (.int x7), none, none], [], σ)) 2 rfl ?_
            rcases cnd_some h with ⟨hc, h⟩ | ⟨hc, h⟩
            · refine RU.tt hc ?_
              refine RU.blk (C' := (bif cNe x3 (2) then 193 else 188, [some (.ref 19), some (.int x1), some (.int x2), some (.int x3), some (.int x4), some (.int x5), some (.int x6), some (.int x7), none, none], [], σ)) 3 rfl ?_
              rcases cnd_some h with ⟨hc, h⟩ | ⟨hc, h⟩
              · refine RU.tt hc ?_
                refine RU.blk (C' := (bif cNe x3 (3) then 203 else 198, [some (.ref 19), some (.int x1), some (.int x2), some (.int x3), some (.int x4), some (.int x5), some (.int x6), some (.int x7), none, none], [], σ)) 3 rfl ?_
                rcases cnd_some h with ⟨hc, h⟩ | ⟨hc, h⟩
                · refine RU.tt hc ?_
                  refine RU.blk (C' := (205, [some (.ref 19), some (.int x1), some (.int x2), some (.int x3), some (.int x4), some (.int x5), some (.int x6), some (.int x7), none, none], [.int (0), .ref 19], σ)) 2 rfl ?_
                  obtain ⟨⟨v1, s1⟩, hk, h⟩ := Option.bind_eq_some_iff.mp h
                  dsimp only at h
                  refine RU.call (as := [.ref 19, .int (0)]) (rest := []) (u := some (.int v1)) (C' := (208, [some (.ref 19), some (.int x1), some (.int x2), some (.int x3), some (.int x4), some (.int x5), some (.int x6), some (.int x7), none, none], [.int v1], s1)) rfl rfl (m_X5_placeOf (0) σ hk) rfl rfl ?_
                  obtain ⟨rfl, rfl⟩ := ret_inj h
                  exact RU.ret rfl rfl rfl
                · refine RU.ff hc ?_
                  refine RU.blk (C' := (208, [some (.ref 19), some (.int x1), some (.int x2), some (.int x3), some (.int x4), some (.int x5), some (.int x6), some (.int x7), none, none], [.int x6], σ)) 2 rfl ?_
                  obtain ⟨rfl, rfl⟩ := ret_inj h
                  exact RU.ret rfl rfl rfl
              · refine RU.ff hc ?_
                refine RU.blk (C' := (208, [some (.ref 19), some (.int x1), some (.int x2), some (.int x3), some (.int x4), some (.int x5), some (.int x6), some (.int x7), none, none], [.int x5], σ)) 2 rfl ?_
                obtain ⟨rfl, rfl⟩ := ret_inj h
                exact RU.ret rfl rfl rfl
            · refine RU.ff hc ?_
              refine RU.blk (C' := (169, [some (.ref 19), some (.int x1), some (.int x2), some (.int x3), some (.int x4), some (.int x5), some (.int x6), some (.int x7), none, none], [.long (gL σ 1224)], σ)) 2 rfl ?_
              obtain ⟨⟨v2, s2⟩, hk, h⟩ := Option.bind_eq_some_iff.mp h
              dsimp only at h
              refine RU.call (as := [.long (gL σ 1224)]) (rest := []) (u := some (.int v2)) (C' := (172, [some (.ref 19), some (.int x1), some (.int x2), some (.int x3), some (.int x4), some (.int x5), some (.int x6), some (.int x7), none, none], [.int v2], s2)) rfl rfl (m_X5_bits (gL σ 1224) σ hk) rfl rfl ?_
              refine RU.blk (C' := (176, [some (.ref 19), some (.int x1), some (.int x2), some (.int x3), some (.int x4), some (.int x5), some (.int x6), some (.int x7), none, none], [.long (gL s2 1239), .int v2], s2)) 2 rfl ?_
              obtain ⟨⟨v3, s3⟩, hk, h⟩ := Option.bind_eq_some_iff.mp h
              dsimp only at h
              refine RU.call (as := [.long (gL s2 1239)]) (rest := [.int v2]) (u := some (.int v3)) (C' := (179, [some (.ref 19), some (.int x1), some (.int x2), some (.int x3), some (.int x4), some (.int x5), some (.int x6), some (.int x7), none, none], [.int v3, .int v2], s3)) rfl rfl (m_X5_bits (gL s2 1239) s2 hk) rfl rfl ?_
              refine RU.blk (C' := (208, [some (.ref 19), some (.int x1), some (.int x2), some (.int x3), some (.int x4), some (.int x5), some (.int x6), some (.int x7), none, none], [.int (v2 - v3)], s3)) 2 rfl ?_
              obtain ⟨rfl, rfl⟩ := ret_inj h
              exact RU.ret rfl rfl rfl
          · refine RU.ff hc ?_
            refine RU.blk (C' := (160, [some (.ref 19), some (.int x1), some (.int x2), some (.int x3), some (.int x4), some (.int x5), some (.int x6), some (.int x7), none, none], [.int ((-100) - x4)], σ)) 3 rfl ?_
            obtain ⟨rfl, rfl⟩ := ret_inj h
            exact RU.ret rfl rfl rfl
        · refine RU.ff hc ?_
          refine RU.blk (C' := (149, [some (.ref 19), some (.int x1), some (.int x2), some (.int x3), some (.int x4), some (.int x5), some (.int x6), some (.int x7), none, none], [.int x4], σ)) 1 rfl ?_
          obtain ⟨rfl, rfl⟩ := ret_inj h
          exact RU.ret rfl rfl rfl
      · refine RU.ff hc ?_
        refine RU.blk (C' := (bif cGe x4 0 then 142 else 25, [some (.ref 19), some (.int x1), some (.int x2), some (.int x3), some (.int x4), some (.int x5), some (.int x6), some (.int x7), none, none], [], σ)) 2 rfl ?_
        rcases cnd_some h with ⟨hc, h⟩ | ⟨hc, h⟩
        · refine RU.tt hc ?_
          refine RU.blk (C' := (bif cNe x3 (1) then 150 else 147, [some (.ref 19), some (.int x1), some (.int x2), some (.int x3), some (.int x4), some (.int x5), some (.int x6), some (.int x7), none, none], [], σ)) 3 rfl ?_
          rcases cnd_some h with ⟨hc, h⟩ | ⟨hc, h⟩
          · refine RU.tt hc ?_
            refine RU.blk (C' := (bif cLt x4 0 then 161 else 155, [some (.ref 19), some (.int x1), some (.int x2), some (.int x3), some (.int x4), some (.int x5), some (.int x6), some (.int x7), none, none], [], σ)) 2 rfl ?_
            rcases cnd_some h with ⟨hc, h⟩ | ⟨hc, h⟩
            · refine RU.tt hc ?_
              refine RU.blk (C' := (bif cNe x3 0 then 183 else 165, [some (.ref 19), some (.int x1), some (.int x2), some (.int x3), some (.int x4), some (.int x5), some (.int x6), some (.int x7), none, none], [], σ)) 2 rfl ?_
              rcases cnd_some h with ⟨hc, h⟩ | ⟨hc, h⟩
              · refine RU.tt hc ?_
                refine RU.blk (C' := (bif cNe x3 (2) then 193 else 188, [some (.ref 19), some (.int x1), some (.int x2), some (.int x3), some (.int x4), some (.int x5), some (.int x6), some (.int x7), none, none], [], σ)) 3 rfl ?_
                rcases cnd_some h with ⟨hc, h⟩ | ⟨hc, h⟩
                · refine RU.tt hc ?_
                  refine RU.blk (C' := (bif cNe x3 (3) then 203 else 198, [some (.ref 19), some (.int x1), some (.int x2), some (.int x3), some (.int x4), some (.int x5), some (.int x6), some (.int x7), none, none], [], σ)) 3 rfl ?_
                  rcases cnd_some h with ⟨hc, h⟩ | ⟨hc, h⟩
                  · refine RU.tt hc ?_
                    refine RU.blk (C' := (205, [some (.ref 19), some (.int x1), some (.int x2), some (.int x3), some (.int x4), some (.int x5), some (.int x6), some (.int x7), none, none], [.int (0), .ref 19], σ)) 2 rfl ?_
                    obtain ⟨⟨v4, s4⟩, hk, h⟩ := Option.bind_eq_some_iff.mp h
                    dsimp only at h
                    refine RU.call (as := [.ref 19, .int (0)]) (rest := []) (u := some (.int v4)) (C' := (208, [some (.ref 19), some (.int x1), some (.int x2), some (.int x3), some (.int x4), some (.int x5), some (.int x6), some (.int x7), none, none], [.int v4], s4)) rfl rfl (m_X5_placeOf (0) σ hk) rfl rfl ?_
                    obtain ⟨rfl, rfl⟩ := ret_inj h
                    exact RU.ret rfl rfl rfl
                  · refine RU.ff hc ?_
                    refine RU.blk (C' := (208, [some (.ref 19), some (.int x1), some (.int x2), some (.int x3), some (.int x4), some (.int x5), some (.int x6), some (.int x7), none, none], [.int x6], σ)) 2 rfl ?_
                    obtain ⟨rfl, rfl⟩ := ret_inj h
                    exact RU.ret rfl rfl rfl
                · refine RU.ff hc ?_
                  refine RU.blk (C' := (208, [some (.ref 19), some (.int x1), some (.int x2), some (.int x3), some (.int x4), some (.int x5), some (.int x6), some (.int x7), none, none], [.int x5], σ)) 2 rfl ?_
                  obtain ⟨rfl, rfl⟩ := ret_inj h
                  exact RU.ret rfl rfl rfl
              · refine RU.ff hc ?_
                refine RU.blk (C' := (169, [some (.ref 19), some (.int x1), some (.int x2), some (.int x3), some (.int x4), some (.int x5), some (.int x6), some (.int x7), none, none], [.long (gL σ 1224)], σ)) 2 rfl ?_
                obtain ⟨⟨v5, s5⟩, hk, h⟩ := Option.bind_eq_some_iff.mp h
                dsimp only at h
                refine RU.call (as := [.long (gL σ 1224)]) (rest := []) (u := some (.int v5)) (C' := (172, [some (.ref 19), some (.int x1), some (.int x2), some (.int x3), some (.int x4), some (.int x5), some (.int x6), some (.int x7), none, none], [.int v5], s5)) rfl rfl (m_X5_bits (gL σ 1224) σ hk) rfl rfl ?_
                refine RU.blk (C' := (176, [some (.ref 19), some (.int x1), some (.int x2), some (.int x3), some (.int x4), some (.int x5), some (.int x6), some (.int x7), none, none], [.long (gL s5 1239), .int v5], s5)) 2 rfl ?_
                obtain ⟨⟨v6, s6⟩, hk, h⟩ := Option.bind_eq_some_iff.mp h
                dsimp only at h
                refine RU.call (as := [.long (gL s5 1239)]) (rest := [.int v5]) (u := some (.int v6)) (C' := (179, [some (.ref 19), some (.int x1), some (.int x2), some (.int x3), some (.int x4), some (.int x5), some (.int x6), some (.int x7), none, none], [.int v6, .int v5], s6)) rfl rfl (m_X5_bits (gL s5 1239) s5 hk) rfl rfl ?_
                refine RU.blk (C' := (208, [some (.ref 19), some (.int x1), some (.int x2), some (.int x3), some (.int x4), some (.int x5), some (.int x6), some (.int x7), none, none], [.int (v5 - v6)], s6)) 2 rfl ?_
                obtain ⟨rfl, rfl⟩ := ret_inj h
                exact RU.ret rfl rfl rfl
            · refine RU.ff hc ?_
              refine RU.blk (C' := (160, [some (.ref 19), some (.int x1), some (.int x2), some (.int x3), some (.int x4), some (.int x5), some (.int x6), some (.int x7), none, none], [.int ((-100) - x4)], σ)) 3 rfl ?_
              obtain ⟨rfl, rfl⟩ := ret_inj h
              exact RU.ret rfl rfl rfl
          · refine RU.ff hc ?_
            refine RU.blk (C' := (149, [some (.ref 19), some (.int x1), some (.int x2), some (.int x3), some (.int x4), some (.int x5), some (.int x6), some (.int x7), none, none], [.int x4], σ)) 1 rfl ?_
            obtain ⟨rfl, rfl⟩ := ret_inj h
            exact RU.ret rfl rfl rfl
        · refine RU.ff hc ?_
          refine RU.blk (C' := (34, [some (.ref 19), some (.int x1), some (.int x2), some (.int x3), some (.int x4), some (.int x5), some (.int x6), some (.int x7), none, none], [.int (x1 + x7), .ref 32, .ref 19], σ)) 6 rfl ?_
          obtain ⟨hv, h⟩ := cnd_n h
          refine RU.iald (N := 240) rfl rfl hv ?_
          obtain ⟨⟨v7, s7⟩, hk, h⟩ := Option.bind_eq_some_iff.mp h
          dsimp only at h
          refine RU.call (as := [.ref 19, .int (gA σ 32 (Int32.toNatClampNeg (x1 + x7)))]) (rest := []) (u := some (.int v7)) (C' := (38, [some (.ref 19), some (.int x1), some (.int x2), some (.int x3), some (.int x4), some (.int x5), some (.int x6), some (.int x7), none, none], [.int v7], s7)) rfl rfl (m_X5_steps (gA σ 32 (Int32.toNatClampNeg (x1 + x7))) σ hk) rfl rfl ?_
          refine RU.blk (C' := (bif cEq v7 0 then 46 else 41, [some (.ref 19), some (.int x1), some (.int x2), some (.int x3), some (.int x4), some (.int x5), some (.int x6), some (.int x7), none, none], [], s7)) 1 rfl ?_
          rcases cnd_some h with ⟨hc, h⟩ | ⟨hc, h⟩
          · refine RU.tt hc ?_
            refine RU.blk (C' := (53, [some (.ref 19), some (.int x1), some (.int x2), some (.int x3), some (.int x7), some (.int x5), some (.int x6), some (.int x7), some (.int (0)), none], [], s7)) 4 rfl ?_
            exact ih.2 x1 x2 x3 x7 x5 x6 x7 (0) none _ _ _ h
          · refine RU.ff hc ?_
            refine RU.blk (C' := (53, [some (.ref 19), some (.int x1), some (.int x2), some (.int x3), some (.int (-9)), some (.int x5), some (.int x6), some (.int x7), some (.int (0)), none], [], s7)) 5 rfl ?_
            exact ih.2 x1 x2 x3 (-9) x5 x6 x7 (0) none _ _ _ h
    · intro x1 x2 x3 x4 x5 x6 x7 x8 u9 σ v σ' h
      rw [L_X5_voyageBy] at h
      rcases cnd_some h with ⟨hc, h⟩ | ⟨hc, h⟩
      · exact absurd hc (by decide)
      rcases cnd_some h with ⟨hc, h⟩ | ⟨hc, h⟩
      rotate_left
      · exact absurd hc (by decide)
      refine RU.blk (C' := (bif cGe x8 (gI σ 1219) then 136 else 62, [some (.ref 19), some (.int x1), some (.int x2), some (.int x3), some (.int x4), some (.int x5), some (.int x6), some (.int x7), some (.int x8), none], [], σ)) 4 rfl ?_
      rcases cnd_some h with ⟨hc, h⟩ | ⟨hc, h⟩
      · refine RU.tt hc ?_
        refine RU.blk (C' := (14, [some (.ref 19), some (.int x1), some (.int x2), some (.int x3), some (.int x4), some (.int x5), some (.int x6), some (.int (x7 + (1))), some (.int x8), none], [], σ)) 2 rfl ?_
        exact ih.1 x1 x2 x3 x4 x5 x6 (x7 + (1)) (some (.int x8)) none _ _ _ h
      · refine RU.ff hc ?_
        refine RU.blk (C' := (68, [some (.ref 19), some (.int x1), some (.int x2), some (.int x3), some (.int x4), some (.int x5), some (.int x6), some (.int x7), some (.int x8), none], [.int x8, .int (gI σ 1223)], σ)) 3 rfl ?_
        obtain ⟨⟨v8, s8⟩, hk, h⟩ := Option.bind_eq_some_iff.mp h
        dsimp only at h
        refine RU.call (as := [.int (gI σ 1223), .int x8]) (rest := []) (u := some (.int v8)) (C' := (71, [some (.ref 19), some (.int x1), some (.int x2), some (.int x3), some (.int x4), some (.int x5), some (.int x6), some (.int x7), some (.int x8), none], [.int v8], s8)) rfl rfl (m_X5_isIn (gI σ 1223) x8 σ hk) rfl rfl ?_
        refine RU.blk (C' := (bif cEq v8 0 then 79 else 74, [some (.ref 19), some (.int x1), some (.int x2), some (.int x3), some (.int x4), some (.int x5), some (.int x6), some (.int x7), some (.int x8), none], [], s8)) 1 rfl ?_
        rcases cnd_some h with ⟨hc, h⟩ | ⟨hc, h⟩
        · refine RU.tt hc ?_
          refine RU.blk (C' := (89, [some (.ref 19), some (.int x1), some (.int x2), some (.int x3), some (.int x4), some (.int x5), some (.int x6), some (.int x7), some (.int x8), none], [.int x8, .ref 19, .ref 20, .int x8, .ref 19], s8)) 6 rfl ?_
          obtain ⟨⟨v9, s9⟩, hk, h⟩ := Option.bind_eq_some_iff.mp h
          dsimp only at h
          refine RU.call (as := [.ref 19, .int x8]) (rest := [.ref 20, .int x8, .ref 19]) (u := some (.int v9)) (C' := (92, [some (.ref 19), some (.int x1), some (.int x2), some (.int x3), some (.int x4), some (.int x5), some (.int x6), some (.int x7), some (.int x8), none], [.int v9, .ref 20, .int x8, .ref 19], s9)) rfl rfl (m_X5_placeOf x8 s8 hk) rfl rfl ?_
          obtain ⟨hv, h⟩ := cnd_n h
          refine RU.iald (N := 36) rfl rfl hv ?_
          obtain ⟨⟨v10, s10⟩, hk, h⟩ := Option.bind_eq_some_iff.mp h
          dsimp only at h
          refine RU.call (as := [.ref 19, .int x8, .int (gA s9 20 (Int32.toNatClampNeg v9))]) (rest := []) (u := some (.int v10)) (C' := (96, [some (.ref 19), some (.int x1), some (.int x2), some (.int x3), some (.int x4), some (.int x5), some (.int x6), some (.int x7), some (.int x8), none], [.int v10], s10)) rfl rfl (m_X5_tells x8 (gA s9 20 (Int32.toNatClampNeg v9)) s9 hk) rfl rfl ?_
          refine RU.blk (C' := (bif cGe v10 0 then 109 else 105, [some (.ref 19), some (.int x1), some (.int x2), some (.int x3), some (.int x4), some (.int x5), some (.int x6), some (.int x7), some (.int x8), some (.int v10)], [.int x5], s10)) 4 rfl ?_
          rcases cnd_some h with ⟨hc, h⟩ | ⟨hc, h⟩
          · refine RU.tt hc ?_
            refine RU.blk (C' := (bif cLe v10 x6 then 126 else 121, [some (.ref 19), some (.int x1), some (.int x2), some (.int x3), some (.int x4), some (.int (x5 + v10)), some (.int x6), some (.int x7), some (.int x8), some (.int v10)], [], s10)) 6 rfl ?_
            rcases cnd_some h with ⟨hc, h⟩ | ⟨hc, h⟩
            · refine RU.tt hc ?_
              refine RU.blk (C' := (53, [some (.ref 19), some (.int x1), some (.int x2), some (.int x3), some (.int x4), some (.int (x5 + v10)), some (.int x6), some (.int x7), some (.int (x8 + (1))), some (.int v10)], [], s10)) 4 rfl ?_
              exact ih.2 x1 x2 x3 x4 (x5 + v10) x6 x7 (x8 + (1)) (some (.int v10)) _ _ _ h
            · refine RU.ff hc ?_
              refine RU.blk (C' := (53, [some (.ref 19), some (.int x1), some (.int x2), some (.int x3), some (.int x4), some (.int (x5 + v10)), some (.int v10), some (.int x7), some (.int (x8 + (1))), some (.int v10)], [], s10)) 5 rfl ?_
              exact ih.2 x1 x2 x3 x4 (x5 + v10) v10 x7 (x8 + (1)) (some (.int v10)) _ _ _ h
          · refine RU.ff hc ?_
            refine RU.blk (C' := (bif cLe v10 x6 then 126 else 121, [some (.ref 19), some (.int x1), some (.int x2), some (.int x3), some (.int x4), some (.int (x5 + (0))), some (.int x6), some (.int x7), some (.int x8), some (.int v10)], [], s10)) 7 rfl ?_
            rcases cnd_some h with ⟨hc, h⟩ | ⟨hc, h⟩
            · refine RU.tt hc ?_
              refine RU.blk (C' := (53, [some (.ref 19), some (.int x1), some (.int x2), some (.int x3), some (.int x4), some (.int (x5 + (0))), some (.int x6), some (.int x7), some (.int (x8 + (1))), some (.int v10)], [], s10)) 4 rfl ?_
              exact ih.2 x1 x2 x3 x4 (x5 + (0)) x6 x7 (x8 + (1)) (some (.int v10)) _ _ _ h
            · refine RU.ff hc ?_
              refine RU.blk (C' := (53, [some (.ref 19), some (.int x1), some (.int x2), some (.int x3), some (.int x4), some (.int (x5 + (0))), some (.int v10), some (.int x7), some (.int (x8 + (1))), some (.int v10)], [], s10)) 5 rfl ?_
              exact ih.2 x1 x2 x3 x4 (x5 + (0)) v10 x7 (x8 + (1)) (some (.int v10)) _ _ _ h
        · refine RU.ff hc ?_
          refine RU.blk (C' := (bif cLe (-9) x6 then 126 else 121, [some (.ref 19), some (.int x1), some (.int x2), some (.int x3), some (.int x4), some (.int (x5 + (0))), some (.int x6), some (.int x7), some (.int x8), some (.int (-9))], [], s8)) 13 rfl ?_
          rcases cnd_some h with ⟨hc, h⟩ | ⟨hc, h⟩
          · refine RU.tt hc ?_
            refine RU.blk (C' := (53, [some (.ref 19), some (.int x1), some (.int x2), some (.int x3), some (.int x4), some (.int (x5 + (0))), some (.int x6), some (.int x7), some (.int (x8 + (1))), some (.int (-9))], [], s8)) 4 rfl ?_
            exact ih.2 x1 x2 x3 x4 (x5 + (0)) x6 x7 (x8 + (1)) (some (.int (-9))) _ _ _ h
          · refine RU.ff hc ?_
            refine RU.blk (C' := (53, [some (.ref 19), some (.int x1), some (.int x2), some (.int x3), some (.int x4), some (.int (x5 + (0))), some (.int (-9)), some (.int x7), some (.int (x8 + (1))), some (.int (-9))], [], s8)) 5 rfl ?_
            exact ih.2 x1 x2 x3 x4 (x5 + (0)) (-9) x7 (x8 + (1)) (some (.int (-9))) _ _ _ h
noncomputable def F_X5_voyageBy (p0 : Int32) (p1 : Int32) (p2 : Int32) (σ : PS) : Option (Int32 × PS) :=
  L_X5_voyageBy fuelN  14 p0 p1 p2 (-9) (0) (-9) (0) 0 σ
set_option maxRecDepth 50000 in
theorem m_X5_voyageBy (p0 : Int32) (p1 : Int32) (p2 : Int32) (σ : PS) {v : Int32} {σ' : PS} (h : F_X5_voyageBy p0 p1 p2 σ = some (v, σ')) : PR 156 [.ref 19, .int p0, .int p1, .int p2] σ (some (.int v)) σ' := by
  refine PR.enter (L := [some (.ref 19), some (.int p0), some (.int p1), some (.int p2), none, none, none, none, none, none]) uT_156 uD_156 rfl rfl ?_
  unfold F_X5_voyageBy at h
  refine RU.blk (C' := (14, [some (.ref 19), some (.int p0), some (.int p1), some (.int p2), some (.int (-9)), some (.int (0)), some (.int (-9)), some (.int (0)), none, none], [], σ)) 8 rfl ?_
  exact (ml_X5_voyageBy fuelN).1 p0 p1 p2 (-9) (0) (-9) (0) none none _ _ _ h
noncomputable def L_X5_voyage  : Nat → Int32 → Int32 → Int32 → Int32 → Int32 → PS → Option (Int32 × PS)
  | 0, _, _, _, _, _, _ => none
  | n + 1, x1, x3, x4, x5, x7, σ => 
    bif cGe x7 x4 then (
      (F_X5_keepAll σ).bind fun q1 =>
      let s1 := q1.2
      (F_X5_voyageBy (((60) * x1) + x3) x4 x5 s1).bind fun q2 =>
      let v2 := q2.1
      let s2 := q2.2
      (F_X5_bringBack s2).bind fun q3 =>
      let s3 := q3.2
      (F_X5_refused v2 s3).bind fun q4 =>
      let v4 := q4.1
      let s4 := q4.2
      some (v4, s4)
    ) else (
      bif vin ((((60) * x1) + x3) + x7) 240 then
      (F_X5_in (Int32.toInt64 (gA σ 32 (Int32.toNatClampNeg ((((60) * x1) + x3) + x7)))) 0 (3) σ).bind fun q5 =>
      let v5 := q5.1
      let s5 := q5.2
      bif cNe v5 0 then (
        L_X5_voyage n  x1 x3 x4 x5 (x7 + (1)) s5
      ) else (
        (F_X5_refused (-2) s5).bind fun q6 =>
        let v6 := q6.1
        let s6 := q6.2
        some (v6, s6)
      )
      else none
    )
set_option maxRecDepth 50000 in
theorem ml_X5_voyage  (n : Nat) : (∀ (x1 : Int32) (x3 : Int32) (x4 : Int32) (x5 : Int32) (x7 : Int32) (u2 : Option Value) (u6 : Option Value) (σ : PS) (v : Int32) (σ' : PS), L_X5_voyage n x1 x3 x4 x5 x7 σ = some (v, σ') → RU ubX5_voyage 4 99 (95, [some (.ref 19), some (.int x1), u2, some (.int x3), some (.int x4), some (.int x5), u6, some (.int x7)], [], σ) (some (.int v)) σ') := by
  induction n with
  | zero =>
    intro x1 x3 x4 x5 x7 u2 u6 σ v σ' h; exact absurd (show (none : Option (Int32 × PS)) = some (v, σ') from h) (by simp)
  | succ n ih =>
    intro x1 x3 x4 x5 x7 u2 u6 σ v σ' h
    rw [L_X5_voyage] at h
    refine RU.blk (C' := (bif cGe x7 x4 then 140 else 102, [some (.ref 19), some (.int x1), none, some (.int x3), some (.int x4), some (.int x5), none, some (.int x7)], [], σ)) 3 rfl ?_
    rcases cnd_some h with ⟨hc, h⟩ | ⟨hc, h⟩
    · refine RU.tt hc ?_
      refine RU.blk (C' := (141, [some (.ref 19), some (.int x1), none, some (.int x3), some (.int x4), some (.int x5), none, some (.int x7)], [.ref 19], σ)) 1 rfl ?_
      obtain ⟨⟨v1, s1⟩, hk, h⟩ := Option.bind_eq_some_iff.mp h
      dsimp only at h
      refine RU.call (as := [.ref 19]) (rest := []) (u := none) (C' := (144, [some (.ref 19), some (.int x1), none, some (.int x3), some (.int x4), some (.int x5), none, some (.int x7)], [], s1)) rfl rfl (m_X5_keepAll σ hk) rfl rfl ?_
      refine RU.blk (C' := (155, [some (.ref 19), some (.int x1), none, some (.int x3), some (.int x4), some (.int x5), none, some (.int x7)], [.int x5, .int x4, .int (((60) * x1) + x3), .ref 19], s1)) 8 rfl ?_
      obtain ⟨⟨v2, s2⟩, hk, h⟩ := Option.bind_eq_some_iff.mp h
      dsimp only at h
      refine RU.call (as := [.ref 19, .int (((60) * x1) + x3), .int x4, .int x5]) (rest := []) (u := some (.int v2)) (C' := (158, [some (.ref 19), some (.int x1), none, some (.int x3), some (.int x4), some (.int x5), none, some (.int x7)], [.int v2], s2)) rfl rfl (m_X5_voyageBy (((60) * x1) + x3) x4 x5 s1 hk) rfl rfl ?_
      refine RU.blk (C' := (161, [some (.ref 19), some (.int x1), none, some (.int x3), some (.int x4), some (.int x5), none, some (.int v2)], [.ref 19], s2)) 2 rfl ?_
      obtain ⟨⟨v3, s3⟩, hk, h⟩ := Option.bind_eq_some_iff.mp h
      dsimp only at h
      refine RU.call (as := [.ref 19]) (rest := []) (u := none) (C' := (164, [some (.ref 19), some (.int x1), none, some (.int x3), some (.int x4), some (.int x5), none, some (.int v2)], [], s3)) rfl rfl (m_X5_bringBack s2 hk) rfl rfl ?_
      refine RU.blk (C' := (167, [some (.ref 19), some (.int x1), none, some (.int x3), some (.int x4), some (.int x5), none, some (.int v2)], [.int v2, .ref 19], s3)) 2 rfl ?_
      obtain ⟨⟨v4, s4⟩, hk, h⟩ := Option.bind_eq_some_iff.mp h
      dsimp only at h
      refine RU.call (as := [.ref 19, .int v2]) (rest := []) (u := some (.int v4)) (C' := (170, [some (.ref 19), some (.int x1), none, some (.int x3), some (.int x4), some (.int x5), none, some (.int v2)], [.int v4], s4)) rfl rfl (m_X5_refused v2 s3 hk) rfl rfl ?_
      obtain ⟨rfl, rfl⟩ := ret_inj h
      exact RU.ret rfl rfl rfl
    · refine RU.ff hc ?_
      refine RU.blk (C' := (115, [some (.ref 19), some (.int x1), none, some (.int x3), some (.int x4), some (.int x5), none, some (.int x7)], [.int ((((60) * x1) + x3) + x7), .ref 32], σ)) 9 rfl ?_
      obtain ⟨hv, h⟩ := cnd_n h
      refine RU.iald (N := 240) rfl rfl hv ?_
      refine RU.blk (C' := (121, [some (.ref 19), some (.int x1), none, some (.int x3), some (.int x4), some (.int x5), none, some (.int x7)], [.long (3), .long 0, .long (Int32.toInt64 (gA σ 32 (Int32.toNatClampNeg ((((60) * x1) + x3) + x7))))], σ)) 3 rfl ?_
      obtain ⟨⟨v5, s5⟩, hk, h⟩ := Option.bind_eq_some_iff.mp h
      dsimp only at h
      refine RU.call (as := [.long (Int32.toInt64 (gA σ 32 (Int32.toNatClampNeg ((((60) * x1) + x3) + x7)))), .long 0, .long (3)]) (rest := []) (u := some (.int v5)) (C' := (124, [some (.ref 19), some (.int x1), none, some (.int x3), some (.int x4), some (.int x5), none, some (.int x7)], [.int v5], s5)) rfl rfl (m_X5_in (Int32.toInt64 (gA σ 32 (Int32.toNatClampNeg ((((60) * x1) + x3) + x7)))) 0 (3) σ hk) rfl rfl ?_
      refine RU.blk (C' := (bif cNe v5 0 then 134 else 127, [some (.ref 19), some (.int x1), none, some (.int x3), some (.int x4), some (.int x5), none, some (.int x7)], [], s5)) 1 rfl ?_
      rcases cnd_some h with ⟨hc, h⟩ | ⟨hc, h⟩
      · refine RU.tt hc ?_
        refine RU.blk (C' := (95, [some (.ref 19), some (.int x1), none, some (.int x3), some (.int x4), some (.int x5), none, some (.int (x7 + (1)))], [], s5)) 2 rfl ?_
        exact ih x1 x3 x4 x5 (x7 + (1)) none none _ _ _ h
      · refine RU.ff hc ?_
        refine RU.blk (C' := (130, [some (.ref 19), some (.int x1), none, some (.int x3), some (.int x4), some (.int x5), none, some (.int x7)], [.int (-2), .ref 19], s5)) 2 rfl ?_
        obtain ⟨⟨v6, s6⟩, hk, h⟩ := Option.bind_eq_some_iff.mp h
        dsimp only at h
        refine RU.call (as := [.ref 19, .int (-2)]) (rest := []) (u := some (.int v6)) (C' := (133, [some (.ref 19), some (.int x1), none, some (.int x3), some (.int x4), some (.int x5), none, some (.int x7)], [.int v6], s6)) rfl rfl (m_X5_refused (-2) s5 hk) rfl rfl ?_
        obtain ⟨rfl, rfl⟩ := ret_inj h
        exact RU.ret rfl rfl rfl
noncomputable def F_X5_voyage (p0 : Int32) (p1 : Int32) (p2 : Int32) (p3 : Int32) (p4 : Int32) (σ : PS) : Option (Int32 × PS) :=
  (F_X5_noSheet p0 σ).bind fun q7 =>
  let v7 := q7.1
  let s7 := q7.2
  bif cEq v7 0 then (
    (F_X5_in (Int32.toInt64 p1) 0 (2) s7).bind fun q8 =>
    let v8 := q8.1
    let s8 := q8.2
    bif cEq v8 0 then (
      (F_X5_refused (-2) s8).bind fun q9 =>
      let v9 := q9.1
      let s9 := q9.2
      some (v9, s9)
    ) else (
      (F_X5_in (Int32.toInt64 p3) 0 (40) s8).bind fun q10 =>
      let v10 := q10.1
      let s10 := q10.2
      bif cEq v10 0 then (
        (F_X5_refused (-2) s10).bind fun q11 =>
        let v11 := q11.1
        let s11 := q11.2
        some (v11, s11)
      ) else (
        (F_X5_in (Int32.toInt64 p4) 0 (4) s10).bind fun q12 =>
        let v12 := q12.1
        let s12 := q12.2
        bif cNe v12 0 then (
          bif cNe (gI s12 1219) 0 then (
            (F_X5_cellsBarred p0 p1 p2 (Int32.toInt64 p3) s12).bind fun q13 =>
            let v13 := q13.1
            let s13 := q13.2
            bif cGe v13 0 then (
              L_X5_voyage fuelN  p0 p2 p3 p4 (0) s13
            ) else (
              some (v13, s13)
            )
          ) else (
            (F_X5_refused (-3) s12).bind fun q14 =>
            let v14 := q14.1
            let s14 := q14.2
            some (v14, s14)
          )
        ) else (
          (F_X5_refused (-2) s12).bind fun q15 =>
          let v15 := q15.1
          let s15 := q15.2
          some (v15, s15)
        )
      )
    )
  ) else (
    (F_X5_refused (-1) s7).bind fun q16 =>
    let v16 := q16.1
    let s16 := q16.2
    some (v16, s16)
  )
set_option maxRecDepth 50000 in
theorem m_X5_voyage (p0 : Int32) (p1 : Int32) (p2 : Int32) (p3 : Int32) (p4 : Int32) (σ : PS) {v : Int32} {σ' : PS} (h : F_X5_voyage p0 p1 p2 p3 p4 σ = some (v, σ')) : PR 157 [.ref 19, .int p0, .int p1, .int p2, .int p3, .int p4] σ (some (.int v)) σ' := by
  refine PR.enter (L := [some (.ref 19), some (.int p0), some (.int p1), some (.int p2), some (.int p3), some (.int p4), none, none]) uT_157 uD_157 rfl rfl ?_
  unfold F_X5_voyage at h
  refine RU.blk (C' := (1, [some (.ref 19), some (.int p0), some (.int p1), some (.int p2), some (.int p3), some (.int p4), none, none], [.int p0], σ)) 1 rfl ?_
  obtain ⟨⟨v7, s7⟩, hk, h⟩ := Option.bind_eq_some_iff.mp h
  dsimp only at h
  refine RU.call (as := [.int p0]) (rest := []) (u := some (.int v7)) (C' := (4, [some (.ref 19), some (.int p0), some (.int p1), some (.int p2), some (.int p3), some (.int p4), none, none], [.int v7], s7)) rfl rfl (m_X5_noSheet p0 σ hk) rfl rfl ?_
  refine RU.blk (C' := (bif cEq v7 0 then 13 else 7, [some (.ref 19), some (.int p0), some (.int p1), some (.int p2), some (.int p3), some (.int p4), none, none], [], s7)) 1 rfl ?_
  rcases cnd_some h with ⟨hc, h⟩ | ⟨hc, h⟩
  · refine RU.tt hc ?_
    refine RU.blk (C' := (19, [some (.ref 19), some (.int p0), some (.int p1), some (.int p2), some (.int p3), some (.int p4), none, none], [.long (2), .long 0, .long (Int32.toInt64 p1)], s7)) 4 rfl ?_
    obtain ⟨⟨v8, s8⟩, hk, h⟩ := Option.bind_eq_some_iff.mp h
    dsimp only at h
    refine RU.call (as := [.long (Int32.toInt64 p1), .long 0, .long (2)]) (rest := []) (u := some (.int v8)) (C' := (22, [some (.ref 19), some (.int p0), some (.int p1), some (.int p2), some (.int p3), some (.int p4), none, none], [.int v8], s8)) rfl rfl (m_X5_in (Int32.toInt64 p1) 0 (2) s7 hk) rfl rfl ?_
    refine RU.blk (C' := (bif cEq v8 0 then 51 else 25, [some (.ref 19), some (.int p0), some (.int p1), some (.int p2), some (.int p3), some (.int p4), none, none], [], s8)) 1 rfl ?_
    rcases cnd_some h with ⟨hc, h⟩ | ⟨hc, h⟩
    · refine RU.tt hc ?_
      refine RU.blk (C' := (54, [some (.ref 19), some (.int p0), some (.int p1), some (.int p2), some (.int p3), some (.int p4), none, none], [.int (-2), .ref 19], s8)) 2 rfl ?_
      obtain ⟨⟨v9, s9⟩, hk, h⟩ := Option.bind_eq_some_iff.mp h
      dsimp only at h
      refine RU.call (as := [.ref 19, .int (-2)]) (rest := []) (u := some (.int v9)) (C' := (57, [some (.ref 19), some (.int p0), some (.int p1), some (.int p2), some (.int p3), some (.int p4), none, none], [.int v9], s9)) rfl rfl (m_X5_refused (-2) s8 hk) rfl rfl ?_
      obtain ⟨rfl, rfl⟩ := ret_inj h
      exact RU.ret rfl rfl rfl
    · refine RU.ff hc ?_
      refine RU.blk (C' := (32, [some (.ref 19), some (.int p0), some (.int p1), some (.int p2), some (.int p3), some (.int p4), none, none], [.long (40), .long 0, .long (Int32.toInt64 p3)], s8)) 4 rfl ?_
      obtain ⟨⟨v10, s10⟩, hk, h⟩ := Option.bind_eq_some_iff.mp h
      dsimp only at h
      refine RU.call (as := [.long (Int32.toInt64 p3), .long 0, .long (40)]) (rest := []) (u := some (.int v10)) (C' := (35, [some (.ref 19), some (.int p0), some (.int p1), some (.int p2), some (.int p3), some (.int p4), none, none], [.int v10], s10)) rfl rfl (m_X5_in (Int32.toInt64 p3) 0 (40) s8 hk) rfl rfl ?_
      refine RU.blk (C' := (bif cEq v10 0 then 51 else 38, [some (.ref 19), some (.int p0), some (.int p1), some (.int p2), some (.int p3), some (.int p4), none, none], [], s10)) 1 rfl ?_
      rcases cnd_some h with ⟨hc, h⟩ | ⟨hc, h⟩
      · refine RU.tt hc ?_
        refine RU.blk (C' := (54, [some (.ref 19), some (.int p0), some (.int p1), some (.int p2), some (.int p3), some (.int p4), none, none], [.int (-2), .ref 19], s10)) 2 rfl ?_
        obtain ⟨⟨v11, s11⟩, hk, h⟩ := Option.bind_eq_some_iff.mp h
        dsimp only at h
        refine RU.call (as := [.ref 19, .int (-2)]) (rest := []) (u := some (.int v11)) (C' := (57, [some (.ref 19), some (.int p0), some (.int p1), some (.int p2), some (.int p3), some (.int p4), none, none], [.int v11], s11)) rfl rfl (m_X5_refused (-2) s10 hk) rfl rfl ?_
        obtain ⟨rfl, rfl⟩ := ret_inj h
        exact RU.ret rfl rfl rfl
      · refine RU.ff hc ?_
        refine RU.blk (C' := (45, [some (.ref 19), some (.int p0), some (.int p1), some (.int p2), some (.int p3), some (.int p4), none, none], [.long (4), .long 0, .long (Int32.toInt64 p4)], s10)) 4 rfl ?_
        obtain ⟨⟨v12, s12⟩, hk, h⟩ := Option.bind_eq_some_iff.mp h
        dsimp only at h
        refine RU.call (as := [.long (Int32.toInt64 p4), .long 0, .long (4)]) (rest := []) (u := some (.int v12)) (C' := (48, [some (.ref 19), some (.int p0), some (.int p1), some (.int p2), some (.int p3), some (.int p4), none, none], [.int v12], s12)) rfl rfl (m_X5_in (Int32.toInt64 p4) 0 (4) s10 hk) rfl rfl ?_
        refine RU.blk (C' := (bif cNe v12 0 then 58 else 51, [some (.ref 19), some (.int p0), some (.int p1), some (.int p2), some (.int p3), some (.int p4), none, none], [], s12)) 1 rfl ?_
        rcases cnd_some h with ⟨hc, h⟩ | ⟨hc, h⟩
        · refine RU.tt hc ?_
          refine RU.blk (C' := (bif cNe (gI s12 1219) 0 then 72 else 65, [some (.ref 19), some (.int p0), some (.int p1), some (.int p2), some (.int p3), some (.int p4), none, none], [], s12)) 3 rfl ?_
          rcases cnd_some h with ⟨hc, h⟩ | ⟨hc, h⟩
          · refine RU.tt hc ?_
            refine RU.blk (C' := (79, [some (.ref 19), some (.int p0), some (.int p1), some (.int p2), some (.int p3), some (.int p4), none, none], [.long (Int32.toInt64 p3), .int p2, .int p1, .int p0, .ref 19], s12)) 6 rfl ?_
            obtain ⟨⟨v13, s13⟩, hk, h⟩ := Option.bind_eq_some_iff.mp h
            dsimp only at h
            refine RU.call (as := [.ref 19, .int p0, .int p1, .int p2, .long (Int32.toInt64 p3)]) (rest := []) (u := some (.int v13)) (C' := (82, [some (.ref 19), some (.int p0), some (.int p1), some (.int p2), some (.int p3), some (.int p4), none, none], [.int v13], s13)) rfl rfl (m_X5_cellsBarred p0 p1 p2 (Int32.toInt64 p3) s12 hk) rfl rfl ?_
            refine RU.blk (C' := (bif cGe v13 0 then 92 else 89, [some (.ref 19), some (.int p0), some (.int p1), some (.int p2), some (.int p3), some (.int p4), some (.int v13), none], [], s13)) 3 rfl ?_
            rcases cnd_some h with ⟨hc, h⟩ | ⟨hc, h⟩
            · refine RU.tt hc ?_
              refine RU.blk (C' := (95, [some (.ref 19), some (.int p0), some (.int p1), some (.int p2), some (.int p3), some (.int p4), some (.int v13), some (.int (0))], [], s13)) 2 rfl ?_
              exact (ml_X5_voyage fuelN) p0 p2 p3 p4 (0) (some (.int p1)) (some (.int v13)) _ _ _ h
            · refine RU.ff hc ?_
              refine RU.blk (C' := (91, [some (.ref 19), some (.int p0), some (.int p1), some (.int p2), some (.int p3), some (.int p4), some (.int v13), none], [.int v13], s13)) 1 rfl ?_
              obtain ⟨rfl, rfl⟩ := ret_inj h
              exact RU.ret rfl rfl rfl
          · refine RU.ff hc ?_
            refine RU.blk (C' := (68, [some (.ref 19), some (.int p0), some (.int p1), some (.int p2), some (.int p3), some (.int p4), none, none], [.int (-3), .ref 19], s12)) 2 rfl ?_
            obtain ⟨⟨v14, s14⟩, hk, h⟩ := Option.bind_eq_some_iff.mp h
            dsimp only at h
            refine RU.call (as := [.ref 19, .int (-3)]) (rest := []) (u := some (.int v14)) (C' := (71, [some (.ref 19), some (.int p0), some (.int p1), some (.int p2), some (.int p3), some (.int p4), none, none], [.int v14], s14)) rfl rfl (m_X5_refused (-3) s12 hk) rfl rfl ?_
            obtain ⟨rfl, rfl⟩ := ret_inj h
            exact RU.ret rfl rfl rfl
        · refine RU.ff hc ?_
          refine RU.blk (C' := (54, [some (.ref 19), some (.int p0), some (.int p1), some (.int p2), some (.int p3), some (.int p4), none, none], [.int (-2), .ref 19], s12)) 2 rfl ?_
          obtain ⟨⟨v15, s15⟩, hk, h⟩ := Option.bind_eq_some_iff.mp h
          dsimp only at h
          refine RU.call (as := [.ref 19, .int (-2)]) (rest := []) (u := some (.int v15)) (C' := (57, [some (.ref 19), some (.int p0), some (.int p1), some (.int p2), some (.int p3), some (.int p4), none, none], [.int v15], s15)) rfl rfl (m_X5_refused (-2) s12 hk) rfl rfl ?_
          obtain ⟨rfl, rfl⟩ := ret_inj h
          exact RU.ret rfl rfl rfl
  · refine RU.ff hc ?_
    refine RU.blk (C' := (9, [some (.ref 19), some (.int p0), some (.int p1), some (.int p2), some (.int p3), some (.int p4), none, none], [.int (-1), .ref 19], s7)) 2 rfl ?_
    obtain ⟨⟨v16, s16⟩, hk, h⟩ := Option.bind_eq_some_iff.mp h
    dsimp only at h
    refine RU.call (as := [.ref 19, .int (-1)]) (rest := []) (u := some (.int v16)) (C' := (12, [some (.ref 19), some (.int p0), some (.int p1), some (.int p2), some (.int p3), some (.int p4), none, none], [.int v16], s16)) rfl rfl (m_X5_refused (-1) s7 hk) rfl rfl ?_
    obtain ⟨rfl, rfl⟩ := ret_inj h
    exact RU.ret rfl rfl rfl
noncomputable def L_X5_isOver  : Nat → Int32 → Int32 → Int32 → Int32 → Int32 → PS → Option (Int32 × PS)
  | 0, _, _, _, _, _, _ => none
  | n + 1, x1, x2, x3, x4, x5, σ => 
    bif cGe x5 (gI σ 1219) then (
      bif okb x4 then some (x4, σ) else none
    ) else (
      bif cNe x4 0 then (
        L_X5_isOver n  x1 x2 x3 (1) (x5 + (1)) σ
      ) else (
        (F_X5_isIn (gI σ 1223) x5 σ).bind fun q1 =>
        let v1 := q1.1
        let s1 := q1.2
        bif cNe v1 0 then (
          L_X5_isOver n  x1 x2 x3 (0) (x5 + (1)) s1
        ) else (
          bif cNe ((((gI s1 1217) * x2) + x1) + x5) x3 then (
            L_X5_isOver n  x1 x2 x3 (0) (x5 + (1)) s1
          ) else (
            L_X5_isOver n  x1 x2 x3 (1) (x5 + (1)) s1
          )
        )
      )
    )
set_option maxRecDepth 50000 in
theorem ml_X5_isOver  (n : Nat) : (∀ (x1 : Int32) (x2 : Int32) (x3 : Int32) (x4 : Int32) (x5 : Int32) (σ : PS) (v : Int32) (σ' : PS), L_X5_isOver n x1 x2 x3 x4 x5 σ = some (v, σ') → RU ubX5_isOver 1 21 (6, [some (.ref 19), some (.int x1), some (.int x2), some (.int x3), some (.int x4), some (.int x5)], [], σ) (some (.int v)) σ') := by
  induction n with
  | zero =>
    intro x1 x2 x3 x4 x5 σ v σ' h; exact absurd (show (none : Option (Int32 × PS)) = some (v, σ') from h) (by simp)
  | succ n ih =>
    intro x1 x2 x3 x4 x5 σ v σ' h
    rw [L_X5_isOver] at h
    refine RU.blk (C' := (bif cGe x5 (gI σ 1219) then 60 else 15, [some (.ref 19), some (.int x1), some (.int x2), some (.int x3), some (.int x4), some (.int x5)], [], σ)) 4 rfl ?_
    rcases cnd_some h with ⟨hc, h⟩ | ⟨hc, h⟩
    · refine RU.tt hc ?_
      refine RU.blk (C' := (62, [some (.ref 19), some (.int x1), some (.int x2), some (.int x3), some (.int x4), some (.int x5)], [.int x4], σ)) 1 rfl ?_
      obtain ⟨hb, h⟩ := cnd_n h
      obtain ⟨rfl, rfl⟩ := ret_inj h
      exact RU.ret rfl (pret_b hb) rfl
    · refine RU.ff hc ?_
      refine RU.blk (C' := (bif cNe x4 0 then 47 else 20, [some (.ref 19), some (.int x1), some (.int x2), some (.int x3), some (.int x4), some (.int x5)], [], σ)) 2 rfl ?_
      rcases cnd_some h with ⟨hc, h⟩ | ⟨hc, h⟩
      · refine RU.tt hc ?_
        refine RU.blk (C' := (6, [some (.ref 19), some (.int x1), some (.int x2), some (.int x3), some (.int (1)), some (.int (x5 + (1)))], [], σ)) 5 rfl ?_
        exact ih x1 x2 x3 (1) (x5 + (1)) _ _ _ h
      · refine RU.ff hc ?_
        refine RU.blk (C' := (26, [some (.ref 19), some (.int x1), some (.int x2), some (.int x3), some (.int x4), some (.int x5)], [.int x5, .int (gI σ 1223)], σ)) 3 rfl ?_
        obtain ⟨⟨v1, s1⟩, hk, h⟩ := Option.bind_eq_some_iff.mp h
        dsimp only at h
        refine RU.call (as := [.int (gI σ 1223), .int x5]) (rest := []) (u := some (.int v1)) (C' := (29, [some (.ref 19), some (.int x1), some (.int x2), some (.int x3), some (.int x4), some (.int x5)], [.int v1], s1)) rfl rfl (m_X5_isIn (gI σ 1223) x5 σ hk) rfl rfl ?_
        refine RU.blk (C' := (bif cNe v1 0 then 51 else 32, [some (.ref 19), some (.int x1), some (.int x2), some (.int x3), some (.int x4), some (.int x5)], [], s1)) 1 rfl ?_
        rcases cnd_some h with ⟨hc, h⟩ | ⟨hc, h⟩
        · refine RU.tt hc ?_
          refine RU.blk (C' := (6, [some (.ref 19), some (.int x1), some (.int x2), some (.int x3), some (.int (0)), some (.int (x5 + (1)))], [], s1)) 4 rfl ?_
          exact ih x1 x2 x3 (0) (x5 + (1)) _ _ _ h
        · refine RU.ff hc ?_
          refine RU.blk (C' := (bif cNe ((((gI s1 1217) * x2) + x1) + x5) x3 then 51 else 47, [some (.ref 19), some (.int x1), some (.int x2), some (.int x3), some (.int x4), some (.int x5)], [], s1)) 10 rfl ?_
          rcases cnd_some h with ⟨hc, h⟩ | ⟨hc, h⟩
          · refine RU.tt hc ?_
            refine RU.blk (C' := (6, [some (.ref 19), some (.int x1), some (.int x2), some (.int x3), some (.int (0)), some (.int (x5 + (1)))], [], s1)) 4 rfl ?_
            exact ih x1 x2 x3 (0) (x5 + (1)) _ _ _ h
          · refine RU.ff hc ?_
            refine RU.blk (C' := (6, [some (.ref 19), some (.int x1), some (.int x2), some (.int x3), some (.int (1)), some (.int (x5 + (1)))], [], s1)) 5 rfl ?_
            exact ih x1 x2 x3 (1) (x5 + (1)) _ _ _ h
noncomputable def F_X5_isOver (p0 : Int32) (p1 : Int32) (p2 : Int32) (σ : PS) : Option (Int32 × PS) :=
  L_X5_isOver fuelN  p0 p1 p2 (0) (0) σ
set_option maxRecDepth 50000 in
theorem m_X5_isOver (p0 : Int32) (p1 : Int32) (p2 : Int32) (σ : PS) {v : Int32} {σ' : PS} (h : F_X5_isOver p0 p1 p2 σ = some (v, σ')) : PR 158 [.ref 19, .int p0, .int p1, .int p2] σ (some (.int v)) σ' := by
  refine PR.enter (L := [some (.ref 19), some (.int p0), some (.int p1), some (.int p2), none, none]) uT_158 uD_158 rfl rfl ?_
  unfold F_X5_isOver at h
  refine RU.blk (C' := (6, [some (.ref 19), some (.int p0), some (.int p1), some (.int p2), some (.int (0)), some (.int (0))], [], σ)) 4 rfl ?_
  exact (ml_X5_isOver fuelN) p0 p1 p2 (0) (0) _ _ _ h
