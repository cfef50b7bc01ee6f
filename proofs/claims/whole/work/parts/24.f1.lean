noncomputable def F_X0_count  (σ : PS) : Option (Int32 × PS) :=
  some ((gI σ 899), σ)
set_option maxRecDepth 50000 in
theorem m_X0_count  (σ : PS) {v : Int32} {σ' : PS} (h : F_X0_count σ = some (v, σ')) : PR 1 [.ref 14] σ (some (.int v)) σ' := by
  refine PR.enter (L := [some (.ref 14)]) uT_1 uD_1 rfl rfl ?_
  unfold F_X0_count at h
  refine RU.blk (C' := (4, [some (.ref 14)], [.int (gI σ 899)], σ)) 2 rfl ?_
  obtain ⟨rfl, rfl⟩ := ret_inj h
  exact RU.ret rfl rfl rfl
noncomputable def F_X0_areFull  (σ : PS) : Option (Int32 × PS) :=
  bif cLt (gI σ 899) (8) then (
    some ((0), σ)
  ) else (
    some ((1), σ)
  )
set_option maxRecDepth 50000 in
theorem m_X0_areFull  (σ : PS) {v : Int32} {σ' : PS} (h : F_X0_areFull σ = some (v, σ')) : PR 2 [.ref 14] σ (some (.int v)) σ' := by
  refine PR.enter (L := [some (.ref 14)]) uT_2 uD_2 rfl rfl ?_
  unfold F_X0_areFull at h
  refine RU.blk (C' := (bif cLt (gI σ 899) (8) then 13 else 9, [some (.ref 14)], [], σ)) 4 rfl ?_
  rcases cnd_some h with ⟨hc, h⟩ | ⟨hc, h⟩
  · refine RU.tt hc ?_
    refine RU.blk (C' := (14, [some (.ref 14)], [.int (0)], σ)) 1 rfl ?_
    obtain ⟨rfl, rfl⟩ := ret_inj h
    exact RU.ret rfl rfl rfl
  · refine RU.ff hc ?_
    refine RU.blk (C' := (14, [some (.ref 14)], [.int (1)], σ)) 2 rfl ?_
    obtain ⟨rfl, rfl⟩ := ret_inj h
    exact RU.ret rfl rfl rfl
noncomputable def F_X4_setNumber (a0 N0 : Nat) (p1 : Int32) (p2 : Int32) (σ : PS) : Option (Unit × PS) :=
  bif cLt p1 0 then (
    some ((), σ)
  ) else (
    bif cGe p1 (Int32.ofNat N0) then (
      some ((), σ)
    ) else (
      bif vin p1 N0 then
      some ((), (sA σ a0 (Int32.toNatClampNeg p1) p2))
      else none
    )
  )
set_option maxRecDepth 50000 in
theorem m_X4_setNumber (a0 N0 : Nat) (ha0 : layT[a0]? = some (.inr (.inl N0))) (p1 : Int32) (p2 : Int32) (σ : PS) {v : Unit} {σ' : PS} (h : F_X4_setNumber a0 N0 p1 p2 σ = some (v, σ')) : PR 120 [.ref a0, .int p1, .int p2] σ (none) σ' := by
  refine PR.enter (L := [some (.ref a0), some (.int p1), some (.int p2)]) uT_120 uD_120 rfl rfl ?_
  unfold F_X4_setNumber at h
  refine RU.blk (C' := (bif cLt p1 0 then 14 else 4, [some (.ref a0), some (.int p1), some (.int p2)], [], σ)) 2 rfl ?_
  rcases cnd_some h with ⟨hc, h⟩ | ⟨hc, h⟩
  · refine RU.tt hc ?_
    obtain ⟨rfl, rfl⟩ := ret_inj h
    exact RU.ret rfl rfl rfl
  · refine RU.ff hc ?_
    refine RU.blk (C' := (6, [some (.ref a0), some (.int p1), some (.int p2)], [.ref a0, .int p1], σ)) 2 rfl ?_
    refine RU.alen (N := N0) rfl ha0 ?_
    refine RU.blk (C' := (bif cGe p1 (Int32.ofNat N0) then 14 else 10, [some (.ref a0), some (.int p1), some (.int p2)], [], σ)) 1 rfl ?_
    rcases cnd_some h with ⟨hc, h⟩ | ⟨hc, h⟩
    · refine RU.tt hc ?_
      obtain ⟨rfl, rfl⟩ := ret_inj h
      exact RU.ret rfl rfl rfl
    · refine RU.ff hc ?_
      refine RU.blk (C' := (13, [some (.ref a0), some (.int p1), some (.int p2)], [.int p2, .int p1, .ref a0], σ)) 3 rfl ?_
      obtain ⟨hv, h⟩ := cnd_n h
      refine RU.iast (N := N0) rfl ha0 hv ?_
      obtain ⟨rfl, rfl⟩ := ret_inj h
      exact RU.ret rfl rfl rfl
noncomputable def F_X0_add (p0 : Int32) (p1 : Int32) (p2 : Int32) (σ : PS) : Option (Int32 × PS) :=
  (F_X4_setNumber 15 8 (gI σ 899) p0 σ).bind fun q1 =>
  let s1 := q1.2
  (F_X4_setNumber 16 8 (gI s1 899) p1 s1).bind fun q2 =>
  let s2 := q2.2
  (F_X4_setNumber 17 8 (gI s2 899) p2 s2).bind fun q3 =>
  let s3 := q3.2
  some ((gI s3 899), (sI s3 899 ((gI s3 899) + (1))))
set_option maxRecDepth 50000 in
theorem m_X0_add (p0 : Int32) (p1 : Int32) (p2 : Int32) (σ : PS) {v : Int32} {σ' : PS} (h : F_X0_add p0 p1 p2 σ = some (v, σ')) : PR 3 [.ref 14, .int p0, .int p1, .int p2] σ (some (.int v)) σ' := by
  refine PR.enter (L := [some (.ref 14), some (.int p0), some (.int p1), some (.int p2)]) uT_3 uD_3 rfl rfl ?_
  unfold F_X0_add at h
  refine RU.blk (C' := (9, [some (.ref 14), some (.int p0), some (.int p1), some (.int p2)], [.int p0, .int (gI σ 899), .ref 15], σ)) 5 rfl ?_
  obtain ⟨⟨v1, s1⟩, hk, h⟩ := Option.bind_eq_some_iff.mp h
  dsimp only at h
  refine RU.call (as := [.ref 15, .int (gI σ 899), .int p0]) (rest := []) (u := none) (C' := (12, [some (.ref 14), some (.int p0), some (.int p1), some (.int p2)], [], s1)) rfl rfl (m_X4_setNumber 15 8 rfl (gI σ 899) p0 σ hk) rfl rfl ?_
  refine RU.blk (C' := (21, [some (.ref 14), some (.int p0), some (.int p1), some (.int p2)], [.int p1, .int (gI s1 899), .ref 16], s1)) 5 rfl ?_
  obtain ⟨⟨v2, s2⟩, hk, h⟩ := Option.bind_eq_some_iff.mp h
  dsimp only at h
  refine RU.call (as := [.ref 16, .int (gI s1 899), .int p1]) (rest := []) (u := none) (C' := (24, [some (.ref 14), some (.int p0), some (.int p1), some (.int p2)], [], s2)) rfl rfl (m_X4_setNumber 16 8 rfl (gI s1 899) p1 s1 hk) rfl rfl ?_
  refine RU.blk (C' := (33, [some (.ref 14), some (.int p0), some (.int p1), some (.int p2)], [.int p2, .int (gI s2 899), .ref 17], s2)) 5 rfl ?_
  obtain ⟨⟨v3, s3⟩, hk, h⟩ := Option.bind_eq_some_iff.mp h
  dsimp only at h
  refine RU.call (as := [.ref 17, .int (gI s2 899), .int p2]) (rest := []) (u := none) (C' := (36, [some (.ref 14), some (.int p0), some (.int p1), some (.int p2)], [], s3)) rfl rfl (m_X4_setNumber 17 8 rfl (gI s2 899) p2 s2 hk) rfl rfl ?_
  refine RU.blk (C' := (47, [some (.ref 14), some (.int p0), some (.int p1), some (.int p2)], [.int (gI s3 899)], (sI s3 899 ((gI s3 899) + (1))))) 7 rfl ?_
  obtain ⟨rfl, rfl⟩ := ret_inj h
  exact RU.ret rfl rfl rfl
noncomputable def F_X0_keep (p0 : Int32) (σ : PS) : Option (Unit × PS) :=
  some ((), (sI σ 899 p0))
set_option maxRecDepth 50000 in
theorem m_X0_keep (p0 : Int32) (σ : PS) {v : Unit} {σ' : PS} (h : F_X0_keep p0 σ = some (v, σ')) : PR 4 [.ref 14, .int p0] σ (none) σ' := by
  refine PR.enter (L := [some (.ref 14), some (.int p0)]) uT_4 uD_4 rfl rfl ?_
  unfold F_X0_keep at h
  refine RU.blk (C' := (5, [some (.ref 14), some (.int p0)], [], (sI σ 899 p0))) 3 rfl ?_
  obtain ⟨rfl, rfl⟩ := ret_inj h
  exact RU.ret rfl rfl rfl
noncomputable def F_X4_numberAt (a0 N0 : Nat) (p1 : Int32) (σ : PS) : Option (Int32 × PS) :=
  bif cLt p1 0 then (
    some ((0), σ)
  ) else (
    bif cGe p1 (Int32.ofNat N0) then (
      some ((0), σ)
    ) else (
      bif vin p1 N0 then
      some ((gA σ a0 (Int32.toNatClampNeg p1)), σ)
      else none
    )
  )
set_option maxRecDepth 50000 in
theorem m_X4_numberAt (a0 N0 : Nat) (ha0 : layT[a0]? = some (.inr (.inl N0))) (p1 : Int32) (σ : PS) {v : Int32} {σ' : PS} (h : F_X4_numberAt a0 N0 p1 σ = some (v, σ')) : PR 119 [.ref a0, .int p1] σ (some (.int v)) σ' := by
  refine PR.enter (L := [some (.ref a0), some (.int p1)]) uT_119 uD_119 rfl rfl ?_
  unfold F_X4_numberAt at h
  refine RU.blk (C' := (bif cLt p1 0 then 16 else 4, [some (.ref a0), some (.int p1)], [], σ)) 2 rfl ?_
  rcases cnd_some h with ⟨hc, h⟩ | ⟨hc, h⟩
  · refine RU.tt hc ?_
    refine RU.blk (C' := (17, [some (.ref a0), some (.int p1)], [.int (0)], σ)) 1 rfl ?_
    obtain ⟨rfl, rfl⟩ := ret_inj h
    exact RU.ret rfl rfl rfl
  · refine RU.ff hc ?_
    refine RU.blk (C' := (6, [some (.ref a0), some (.int p1)], [.ref a0, .int p1], σ)) 2 rfl ?_
    refine RU.alen (N := N0) rfl ha0 ?_
    refine RU.blk (C' := (bif cGe p1 (Int32.ofNat N0) then 16 else 10, [some (.ref a0), some (.int p1)], [], σ)) 1 rfl ?_
    rcases cnd_some h with ⟨hc, h⟩ | ⟨hc, h⟩
    · refine RU.tt hc ?_
      refine RU.blk (C' := (17, [some (.ref a0), some (.int p1)], [.int (0)], σ)) 1 rfl ?_
      obtain ⟨rfl, rfl⟩ := ret_inj h
      exact RU.ret rfl rfl rfl
    · refine RU.ff hc ?_
      refine RU.blk (C' := (12, [some (.ref a0), some (.int p1)], [.int p1, .ref a0], σ)) 2 rfl ?_
      obtain ⟨hv, h⟩ := cnd_n h
      refine RU.iald (N := N0) rfl ha0 hv ?_
      refine RU.blk (C' := (17, [some (.ref a0), some (.int p1)], [.int (gA σ a0 (Int32.toNatClampNeg p1))], σ)) 1 rfl ?_
      obtain ⟨rfl, rfl⟩ := ret_inj h
      exact RU.ret rfl rfl rfl
noncomputable def F_X1_kindOf (p0 : Int32) (σ : PS) : Option (Int32 × PS) :=
  (F_X4_numberAt 12 4 p0 σ).bind fun q1 =>
  let v1 := q1.1
  let s1 := q1.2
  some (v1, s1)
set_option maxRecDepth 50000 in
theorem m_X1_kindOf (p0 : Int32) (σ : PS) {v : Int32} {σ' : PS} (h : F_X1_kindOf p0 σ = some (v, σ')) : PR 20 [.ref 10, .int p0] σ (some (.int v)) σ' := by
  refine PR.enter (L := [some (.ref 10), some (.int p0)]) uT_20 uD_20 rfl rfl ?_
  unfold F_X1_kindOf at h
  refine RU.blk (C' := (5, [some (.ref 10), some (.int p0)], [.int p0, .ref 12], σ)) 3 rfl ?_
  obtain ⟨⟨v1, s1⟩, hk, h⟩ := Option.bind_eq_some_iff.mp h
  dsimp only at h
  refine RU.call (as := [.ref 12, .int p0]) (rest := []) (u := some (.int v1)) (C' := (8, [some (.ref 10), some (.int p0)], [.int v1], s1)) rfl rfl (m_X4_numberAt 12 4 rfl p0 σ hk) rfl rfl ?_
  obtain ⟨rfl, rfl⟩ := ret_inj h
  exact RU.ret rfl rfl rfl
noncomputable def F_X1_shortOf (p0 : Int32) (σ : PS) : Option (Int32 × PS) :=
  (F_X4_numberAt 13 4 p0 σ).bind fun q1 =>
  let v1 := q1.1
  let s1 := q1.2
  some (v1, s1)
set_option maxRecDepth 50000 in
theorem m_X1_shortOf (p0 : Int32) (σ : PS) {v : Int32} {σ' : PS} (h : F_X1_shortOf p0 σ = some (v, σ')) : PR 21 [.ref 10, .int p0] σ (some (.int v)) σ' := by
  refine PR.enter (L := [some (.ref 10), some (.int p0)]) uT_21 uD_21 rfl rfl ?_
  unfold F_X1_shortOf at h
  refine RU.blk (C' := (5, [some (.ref 10), some (.int p0)], [.int p0, .ref 13], σ)) 3 rfl ?_
  obtain ⟨⟨v1, s1⟩, hk, h⟩ := Option.bind_eq_some_iff.mp h
  dsimp only at h
  refine RU.call (as := [.ref 13, .int p0]) (rest := []) (u := some (.int v1)) (C' := (8, [some (.ref 10), some (.int p0)], [.int v1], s1)) rfl rfl (m_X4_numberAt 13 4 rfl p0 σ hk) rfl rfl ?_
  obtain ⟨rfl, rfl⟩ := ret_inj h
  exact RU.ret rfl rfl rfl
noncomputable def F_X1_told (p0 : Int32) (p1 : Int32) (p2 : Int32) (σ : PS) : Option (Int32 × PS) :=
  bif cNe p0 0 then (
    bif cNe p0 (1) then (
      some (((2) * ((imax (p2 - p1) (0)) + (1))), σ)
    ) else (
      some (((imax (p2 - p1) (0)) + (1)), σ)
    )
  ) else (
    some ((imax (p2 - p1) (0)), σ)
  )
set_option maxRecDepth 50000 in
theorem m_X1_told (p0 : Int32) (p1 : Int32) (p2 : Int32) (σ : PS) {v : Int32} {σ' : PS} (h : F_X1_told p0 p1 p2 σ = some (v, σ')) : PR 30 [.int p0, .int p1, .int p2] σ (some (.int v)) σ' := by
  refine PR.enter (L := [some (.int p0), some (.int p1), some (.int p2), none]) uT_30 uD_30 rfl rfl ?_
  unfold F_X1_told at h
  refine RU.blk (C' := (bif cNe p0 0 then 14 else 12, [some (.int p0), some (.int p1), some (.int p2), some (.int (imax (p2 - p1) (0)))], [], σ)) 8 rfl ?_
  rcases cnd_some h with ⟨hc, h⟩ | ⟨hc, h⟩
  · refine RU.tt hc ?_
    refine RU.blk (C' := (bif cNe p0 (1) then 25 else 19, [some (.int p0), some (.int p1), some (.int p2), some (.int (imax (p2 - p1) (0)))], [], σ)) 3 rfl ?_
    rcases cnd_some h with ⟨hc, h⟩ | ⟨hc, h⟩
    · refine RU.tt hc ?_
      refine RU.blk (C' := (30, [some (.int p0), some (.int p1), some (.int p2), some (.int (imax (p2 - p1) (0)))], [.int ((2) * ((imax (p2 - p1) (0)) + (1)))], σ)) 5 rfl ?_
      obtain ⟨rfl, rfl⟩ := ret_inj h
      exact RU.ret rfl rfl rfl
    · refine RU.ff hc ?_
      refine RU.blk (C' := (30, [some (.int p0), some (.int p1), some (.int p2), some (.int (imax (p2 - p1) (0)))], [.int ((imax (p2 - p1) (0)) + (1))], σ)) 4 rfl ?_
      obtain ⟨rfl, rfl⟩ := ret_inj h
      exact RU.ret rfl rfl rfl
  · refine RU.ff hc ?_
    refine RU.blk (C' := (13, [some (.int p0), some (.int p1), some (.int p2), some (.int (imax (p2 - p1) (0)))], [.int (imax (p2 - p1) (0))], σ)) 1 rfl ?_
    obtain ⟨rfl, rfl⟩ := ret_inj h
    exact RU.ret rfl rfl rfl
noncomputable def L_X0_areSo  : Nat → Int32 → Int32 → Int32 → Int32 → PS → Option (Int32 × PS)
  | 0, _, _, _, _, _ => none
  | n + 1, x2, x3, x4, x5, σ => 
    bif cGe x5 (gI σ 899) then (
      some ((1), σ)
    ) else (
      (F_X4_numberAt 15 8 x5 σ).bind fun q1 =>
      let v1 := q1.1
      let s1 := q1.2
      bif cNe v1 x2 then (
        (F_X1_kindOf v1 s1).bind fun q2 =>
        let v2 := q2.1
        let s2 := q2.2
        bif cNe v1 x2 then (
          (F_X1_shortOf v1 s2).bind fun q3 =>
          let v3 := q3.1
          let s3 := q3.2
          (F_X4_numberAt 16 8 x5 s3).bind fun q4 =>
          let v4 := q4.1
          let s4 := q4.2
          (F_X1_told v2 v3 v4 s4).bind fun q5 =>
          let v5 := q5.1
          let s5 := q5.2
          (F_X4_numberAt 17 8 x5 s5).bind fun q6 =>
          let v6 := q6.1
          let s6 := q6.2
          bif cEq v5 v6 then (
            L_X0_areSo n  x2 x3 x4 (x5 + (1)) s6
          ) else (
            some ((0), s6)
          )
        ) else (
          (F_X4_numberAt 16 8 x5 s2).bind fun q7 =>
          let v7 := q7.1
          let s7 := q7.2
          (F_X1_told v2 x4 v7 s7).bind fun q8 =>
          let v8 := q8.1
          let s8 := q8.2
          (F_X4_numberAt 17 8 x5 s8).bind fun q9 =>
          let v9 := q9.1
          let s9 := q9.2
          bif cEq v8 v9 then (
            L_X0_areSo n  x2 x3 x4 (x5 + (1)) s9
          ) else (
            some ((0), s9)
          )
        )
      ) else (
        bif cNe v1 x2 then (
          (F_X1_shortOf v1 s1).bind fun q10 =>
          let v10 := q10.1
          let s10 := q10.2
          (F_X4_numberAt 16 8 x5 s10).bind fun q11 =>
          let v11 := q11.1
          let s11 := q11.2
          (F_X1_told x3 v10 v11 s11).bind fun q12 =>
          let v12 := q12.1
          let s12 := q12.2
          (F_X4_numberAt 17 8 x5 s12).bind fun q13 =>
          let v13 := q13.1
          let s13 := q13.2
          bif cEq v12 v13 then (
            L_X0_areSo n  x2 x3 x4 (x5 + (1)) s13
          ) else (
            some ((0), s13)
          )
        ) else (
          (F_X4_numberAt 16 8 x5 s1).bind fun q14 =>
          let v14 := q14.1
          let s14 := q14.2
          (F_X1_told x3 x4 v14 s14).bind fun q15 =>
          let v15 := q15.1
          let s15 := q15.2
          (F_X4_numberAt 17 8 x5 s15).bind fun q16 =>
          let v16 := q16.1
          let s16 := q16.2
          bif cEq v15 v16 then (
            L_X0_areSo n  x2 x3 x4 (x5 + (1)) s16
          ) else (
            some ((0), s16)
          )
        )
      )
    )
set_option maxRecDepth 50000 in
theorem ml_X0_areSo  (n : Nat) : (∀ (x2 : Int32) (x3 : Int32) (x4 : Int32) (x5 : Int32) (u6 : Option Value) (u7 : Option Value) (u8 : Option Value) (σ : PS) (v : Int32) (σ' : PS), L_X0_areSo n x2 x3 x4 x5 σ = some (v, σ') → RU ubX0_areSo 2 44 (3, [some (.ref 14), some (.ref 10), some (.int x2), some (.int x3), some (.int x4), some (.int x5), u6, u7, u8], [], σ) (some (.int v)) σ') := by
  induction n with
  | zero =>
    intro x2 x3 x4 x5 u6 u7 u8 σ v σ' h; exact absurd (show (none : Option (Int32 × PS)) = some (v, σ') from h) (by simp)
  | succ n ih =>
    intro x2 x3 x4 x5 u6 u7 u8 σ v σ' h
    rw [L_X0_areSo] at h
    refine RU.blk (C' := (bif cGe x5 (gI σ 899) then 96 else 12, [some (.ref 14), some (.ref 10), some (.int x2), some (.int x3), some (.int x4), some (.int x5), none, none, none], [], σ)) 4 rfl ?_
    rcases cnd_some h with ⟨hc, h⟩ | ⟨hc, h⟩
    · refine RU.tt hc ?_
      refine RU.blk (C' := (97, [some (.ref 14), some (.ref 10), some (.int x2), some (.int x3), some (.int x4), some (.int x5), none, none, none], [.int (1)], σ)) 1 rfl ?_
      obtain ⟨rfl, rfl⟩ := ret_inj h
      exact RU.ret rfl rfl rfl
    · refine RU.ff hc ?_
      refine RU.blk (C' := (18, [some (.ref 14), some (.ref 10), some (.int x2), some (.int x3), some (.int x4), some (.int x5), none, none, none], [.int x5, .ref 15], σ)) 3 rfl ?_
      obtain ⟨⟨v1, s1⟩, hk, h⟩ := Option.bind_eq_some_iff.mp h
      dsimp only at h
      refine RU.call (as := [.ref 15, .int x5]) (rest := []) (u := some (.int v1)) (C' := (21, [some (.ref 14), some (.ref 10), some (.int x2), some (.int x3), some (.int x4), some (.int x5), none, none, none], [.int v1], s1)) rfl rfl (m_X4_numberAt 15 8 rfl x5 σ hk) rfl rfl ?_
      refine RU.blk (C' := (bif cNe v1 x2 then 33 else 29, [some (.ref 14), some (.ref 10), some (.int x2), some (.int x3), some (.int x4), some (.int x5), some (.int v1), none, none], [], s1)) 4 rfl ?_
      rcases cnd_some h with ⟨hc, h⟩ | ⟨hc, h⟩
      · refine RU.tt hc ?_
        refine RU.blk (C' := (36, [some (.ref 14), some (.ref 10), some (.int x2), some (.int x3), some (.int x4), some (.int x5), some (.int v1), none, none], [.int v1, .ref 10], s1)) 2 rfl ?_
        obtain ⟨⟨v2, s2⟩, hk, h⟩ := Option.bind_eq_some_iff.mp h
        dsimp only at h
        refine RU.call (as := [.ref 10, .int v1]) (rest := []) (u := some (.int v2)) (C' := (39, [some (.ref 14), some (.ref 10), some (.int x2), some (.int x3), some (.int x4), some (.int x5), some (.int v1), none, none], [.int v2], s2)) rfl rfl (m_X1_kindOf v1 s1 hk) rfl rfl ?_
        refine RU.blk (C' := (bif cNe v1 x2 then 52 else 47, [some (.ref 14), some (.ref 10), some (.int x2), some (.int x3), some (.int x4), some (.int x5), some (.int v1), some (.int v2), none], [], s2)) 4 rfl ?_
        rcases cnd_some h with ⟨hc, h⟩ | ⟨hc, h⟩
        · refine RU.tt hc ?_
          refine RU.blk (C' := (55, [some (.ref 14), some (.ref 10), some (.int x2), some (.int x3), some (.int x4), some (.int x5), some (.int v1), some (.int v2), none], [.int v1, .ref 10], s2)) 2 rfl ?_
          obtain ⟨⟨v3, s3⟩, hk, h⟩ := Option.bind_eq_some_iff.mp h
          dsimp only at h
          refine RU.call (as := [.ref 10, .int v1]) (rest := []) (u := some (.int v3)) (C' := (58, [some (.ref 14), some (.ref 10), some (.int x2), some (.int x3), some (.int x4), some (.int x5), some (.int v1), some (.int v2), none], [.int v3], s3)) rfl rfl (m_X1_shortOf v1 s2 hk) rfl rfl ?_
          refine RU.blk (C' := (70, [some (.ref 14), some (.ref 10), some (.int x2), some (.int x3), some (.int x4), some (.int x5), some (.int v1), some (.int v2), some (.int v3)], [.int x5, .ref 16, .int v3, .int v2], s3)) 6 rfl ?_
          obtain ⟨⟨v4, s4⟩, hk, h⟩ := Option.bind_eq_some_iff.mp h
          dsimp only at h
          refine RU.call (as := [.ref 16, .int x5]) (rest := [.int v3, .int v2]) (u := some (.int v4)) (C' := (73, [some (.ref 14), some (.ref 10), some (.int x2), some (.int x3), some (.int x4), some (.int x5), some (.int v1), some (.int v2), some (.int v3)], [.int v4, .int v3, .int v2], s4)) rfl rfl (m_X4_numberAt 16 8 rfl x5 s3 hk) rfl rfl ?_
          obtain ⟨⟨v5, s5⟩, hk, h⟩ := Option.bind_eq_some_iff.mp h
          dsimp only at h
          refine RU.call (as := [.int v2, .int v3, .int v4]) (rest := []) (u := some (.int v5)) (C' := (76, [some (.ref 14), some (.ref 10), some (.int x2), some (.int x3), some (.int x4), some (.int x5), some (.int v1), some (.int v2), some (.int v3)], [.int v5], s5)) rfl rfl (m_X1_told v2 v3 v4 s4 hk) rfl rfl ?_
          refine RU.blk (C' := (82, [some (.ref 14), some (.ref 10), some (.int x2), some (.int x3), some (.int x4), some (.int x5), some (.int v1), some (.int v2), some (.int v3)], [.int x5, .ref 17, .int v5], s5)) 3 rfl ?_
          obtain ⟨⟨v6, s6⟩, hk, h⟩ := Option.bind_eq_some_iff.mp h
          dsimp only at h
          refine RU.call (as := [.ref 17, .int x5]) (rest := [.int v5]) (u := some (.int v6)) (C' := (85, [some (.ref 14), some (.ref 10), some (.int x2), some (.int x3), some (.int x4), some (.int x5), some (.int v1), some (.int v2), some (.int v3)], [.int v6, .int v5], s6)) rfl rfl (m_X4_numberAt 17 8 rfl x5 s5 hk) rfl rfl ?_
          refine RU.blk (C' := (bif cEq v5 v6 then 90 else 88, [some (.ref 14), some (.ref 10), some (.int x2), some (.int x3), some (.int x4), some (.int x5), some (.int v1), some (.int v2), some (.int v3)], [], s6)) 1 rfl ?_
          rcases cnd_some h with ⟨hc, h⟩ | ⟨hc, h⟩
          · refine RU.tt hc ?_
            refine RU.blk (C' := (3, [some (.ref 14), some (.ref 10), some (.int x2), some (.int x3), some (.int x4), some (.int (x5 + (1))), some (.int v1), some (.int v2), some (.int v3)], [], s6)) 2 rfl ?_
            exact ih x2 x3 x4 (x5 + (1)) (some (.int v1)) (some (.int v2)) (some (.int v3)) _ _ _ h
          · refine RU.ff hc ?_
            refine RU.blk (C' := (89, [some (.ref 14), some (.ref 10), some (.int x2), some (.int x3), some (.int x4), some (.int x5), some (.int v1), some (.int v2), some (.int v3)], [.int (0)], s6)) 1 rfl ?_
            obtain ⟨rfl, rfl⟩ := ret_inj h
            exact RU.ret rfl rfl rfl
        · refine RU.ff hc ?_
          refine RU.blk (C' := (70, [some (.ref 14), some (.ref 10), some (.int x2), some (.int x3), some (.int x4), some (.int x5), some (.int v1), some (.int v2), some (.int x4)], [.int x5, .ref 16, .int x4, .int v2], s2)) 8 rfl ?_
          obtain ⟨⟨v7, s7⟩, hk, h⟩ := Option.bind_eq_some_iff.mp h
          dsimp only at h
          refine RU.call (as := [.ref 16, .int x5]) (rest := [.int x4, .int v2]) (u := some (.int v7)) (C' := (73, [some (.ref 14), some (.ref 10), some (.int x2), some (.int x3), some (.int x4), some (.int x5), some (.int v1), some (.int v2), some (.int x4)], [.int v7, .int x4, .int v2], s7)) rfl rfl (m_X4_numberAt 16 8 rfl x5 s2 hk) rfl rfl ?_
          obtain ⟨⟨v8, s8⟩, hk, h⟩ := Option.bind_eq_some_iff.mp h
          dsimp only at h
          refine RU.call (as := [.int v2, .int x4, .int v7]) (rest := []) (u := some (.int v8)) (C' := (76, [some (.ref 14), some (.ref 10), some (.int x2), some (.int x3), some (.int x4), some (.int x5), some (.int v1), some (.int v2), some (.int x4)], [.int v8], s8)) rfl rfl (m_X1_told v2 x4 v7 s7 hk) rfl rfl ?_
          refine RU.blk (C' := (82, [some (.ref 14), some (.ref 10), some (.int x2), some (.int x3), some (.int x4), some (.int x5), some (.int v1), some (.int v2), some (.int x4)], [.int x5, .ref 17, .int v8], s8)) 3 rfl ?_
          obtain ⟨⟨v9, s9⟩, hk, h⟩ := Option.bind_eq_some_iff.mp h
          dsimp only at h
          refine RU.call (as := [.ref 17, .int x5]) (rest := [.int v8]) (u := some (.int v9)) (C' := (85, [some (.ref 14), some (.ref 10), some (.int x2), some (.int x3), some (.int x4), some (.int x5), some (.int v1), some (.int v2), some (.int x4)], [.int v9, .int v8], s9)) rfl rfl (m_X4_numberAt 17 8 rfl x5 s8 hk) rfl rfl ?_
          refine RU.blk (C' := (bif cEq v8 v9 then 90 else 88, [some (.ref 14), some (.ref 10), some (.int x2), some (.int x3), some (.int x4), some (.int x5), some (.int v1), some (.int v2), some (.int x4)], [], s9)) 1 rfl ?_
          rcases cnd_some h with ⟨hc, h⟩ | ⟨hc, h⟩
          · refine RU.tt hc ?_
            refine RU.blk (C' := (3, [some (.ref 14), some (.ref 10), some (.int x2), some (.int x3), some (.int x4), some (.int (x5 + (1))), some (.int v1), some (.int v2), some (.int x4)], [], s9)) 2 rfl ?_
            exact ih x2 x3 x4 (x5 + (1)) (some (.int v1)) (some (.int v2)) (some (.int x4)) _ _ _ h
          · refine RU.ff hc ?_
            refine RU.blk (C' := (89, [some (.ref 14), some (.ref 10), some (.int x2), some (.int x3), some (.int x4), some (.int x5), some (.int v1), some (.int v2), some (.int x4)], [.int (0)], s9)) 1 rfl ?_
            obtain ⟨rfl, rfl⟩ := ret_inj h
            exact RU.ret rfl rfl rfl
      · refine RU.ff hc ?_
        refine RU.blk (C' := (bif cNe v1 x2 then 52 else 47, [some (.ref 14), some (.ref 10), some (.int x2), some (.int x3), some (.int x4), some (.int x5), some (.int v1), some (.int x3), none], [], s1)) 6 rfl ?_
        rcases cnd_some h with ⟨hc, h⟩ | ⟨hc, h⟩
        · refine RU.tt hc ?_
          refine RU.blk (C' := (55, [some (.ref 14), some (.ref 10), some (.int x2), some (.int x3), some (.int x4), some (.int x5), some (.int v1), some (.int x3), none], [.int v1, .ref 10], s1)) 2 rfl ?_
          obtain ⟨⟨v10, s10⟩, hk, h⟩ := Option.bind_eq_some_iff.mp h
          dsimp only at h
          refine RU.call (as := [.ref 10, .int v1]) (rest := []) (u := some (.int v10)) (C' := (58, [some (.ref 14), some (.ref 10), some (.int x2), some (.int x3), some (.int x4), some (.int x5), some (.int v1), some (.int x3), none], [.int v10], s10)) rfl rfl (m_X1_shortOf v1 s1 hk) rfl rfl ?_
          refine RU.blk (C' := (70, [some (.ref 14), some (.ref 10), some (.int x2), some (.int x3), some (.int x4), some (.int x5), some (.int v1), some (.int x3), some (.int v10)], [.int x5, .ref 16, .int v10, .int x3], s10)) 6 rfl ?_
          obtain ⟨⟨v11, s11⟩, hk, h⟩ := Option.bind_eq_some_iff.mp h
          dsimp only at h
          refine RU.call (as := [.ref 16, .int x5]) (rest := [.int v10, .int x3]) (u := some (.int v11)) (C' := (73, [some (.ref 14), some (.ref 10), some (.int x2), some (.int x3), some (.int x4), some (.int x5), some (.int v1), some (.int x3), some (.int v10)], [.int v11, .int v10, .int x3], s11)) rfl rfl (m_X4_numberAt 16 8 rfl x5 s10 hk) rfl rfl ?_
          obtain ⟨⟨v12, s12⟩, hk, h⟩ := Option.bind_eq_some_iff.mp h
          dsimp only at h
          refine RU.call (as := [.int x3, .int v10, .int v11]) (rest := []) (u := some (.int v12)) (C' := (76, [some (.ref 14), some (.ref 10), some (.int x2), some (.int x3), some (.int x4), some (.int x5), some (.int v1), some (.int x3), some (.int v10)], [.int v12], s12)) rfl rfl (m_X1_told x3 v10 v11 s11 hk) rfl rfl ?_
          refine RU.blk (C' := (82, [some (.ref 14), some (.ref 10), some (.int x2), some (.int x3), some (.int x4), some (.int x5), some (.int v1), some (.int x3), some (.int v10)], [.int x5, .ref 17, .int v12], s12)) 3 rfl ?_
          obtain ⟨⟨v13, s13⟩, hk, h⟩ := Option.bind_eq_some_iff.mp h
          dsimp only at h
          refine RU.call (as := [.ref 17, .int x5]) (rest := [.int v12]) (u := some (.int v13)) (C' := (85, [some (.ref 14), some (.ref 10), some (.int x2), some (.int x3), some (.int x4), some (.int x5), some (.int v1), some (.int x3), some (.int v10)], [.int v13, .int v12], s13)) rfl rfl (m_X4_numberAt 17 8 rfl x5 s12 hk) rfl rfl ?_
          refine RU.blk (C' := (bif cEq v12 v13 then 90 else 88, [some (.ref 14), some (.ref 10), some (.int x2), some (.int x3), some (.int x4), some (.int x5), some (.int v1), some (.int x3), some (.int v10)], [], s13)) 1 rfl ?_
          rcases cnd_some h with ⟨hc, h⟩ | ⟨hc, h⟩
          · refine RU.tt hc ?_
            refine RU.blk (C' := (3, [some (.ref 14), some (.ref 10), some (.int x2), some (.int x3), some (.int x4), some (.int (x5 + (1))), some (.int v1), some (.int x3), some (.int v10)], [], s13)) 2 rfl ?_
            exact ih x2 x3 x4 (x5 + (1)) (some (.int v1)) (some (.int x3)) (some (.int v10)) _ _ _ h
          · refine RU.ff hc ?_
            refine RU.blk (C' := (89, [some (.ref 14), some (.ref 10), some (.int x2), some (.int x3), some (.int x4), some (.int x5), some (.int v1), some (.int x3), some (.int v10)], [.int (0)], s13)) 1 rfl ?_
            obtain ⟨rfl, rfl⟩ := ret_inj h
            exact RU.ret rfl rfl rfl
        · refine RU.ff hc ?_
          refine RU.blk (C' := (70, [some (.ref 14), some (.ref 10), some (.int x2), some (.int x3), some (.int x4), some (.int x5), some (.int v1), some (.int x3), some (.int x4)], [.int x5, .ref 16, .int x4, .int x3], s1)) 8 rfl ?_
          obtain ⟨⟨v14, s14⟩, hk, h⟩ := Option.bind_eq_some_iff.mp h
          dsimp only at h
          refine RU.call (as := [.ref 16, .int x5]) (rest := [.int x4, .int x3]) (u := some (.int v14)) (C' := (73, [some (.ref 14), some (.ref 10), some (.int x2), some (.int x3), some (.int x4), some (.int x5), some (.int v1), some (.int x3), some (.int x4)], [.int v14, .int x4, .int x3], s14)) rfl rfl (m_X4_numberAt 16 8 rfl x5 s1 hk) rfl rfl ?_
          obtain ⟨⟨v15, s15⟩, hk, h⟩ := Option.bind_eq_some_iff.mp h
          dsimp only at h
          refine RU.call (as := [.int x3, .int x4, .int v14]) (rest := []) (u := some (.int v15)) (C' := (76, [some (.ref 14), some (.ref 10), some (.int x2), some (.int x3), some (.int x4), some (.int x5), some (.int v1), some (.int x3), some (.int x4)], [.int v15], s15)) rfl rfl (m_X1_told x3 x4 v14 s14 hk) rfl rfl ?_
          refine RU.blk (C' := (82, [some (.ref 14), some (.ref 10), some (.int x2), some (.int x3), some (.int x4), some (.int x5), some (.int v1), some (.int x3), some (.int x4)], [.int x5, .ref 17, .int v15], s15)) 3 rfl ?_
          obtain ⟨⟨v16, s16⟩, hk, h⟩ := Option.bind_eq_some_iff.mp h
          dsimp only at h
          refine RU.call (as := [.ref 17, .int x5]) (rest := [.int v15]) (u := some (.int v16)) (C' := (85, [some (.ref 14), some (.ref 10), some (.int x2), some (.int x3), some (.int x4), some (.int x5), some (.int v1), some (.int x3), some (.int x4)], [.int v16, .int v15], s16)) rfl rfl (m_X4_numberAt 17 8 rfl x5 s15 hk) rfl rfl ?_
          refine RU.blk (C' := (bif cEq v15 v16 then 90 else 88, [some (.ref 14), some (.ref 10), some (.int x2), some (.int x3), some (.int x4), some (.int x5), some (.int v1), some (.int x3), some (.int x4)], [], s16)) 1 rfl ?_
          rcases cnd_some h with ⟨hc, h⟩ | ⟨hc, h⟩
          · refine RU.tt hc ?_
            refine RU.blk (C' := (3, [some (.ref 14), some (.ref 10), some (.int x2), some (.int x3), some (.int x4), some (.int (x5 + (1))), some (.int v1), some (.int x3), some (.int x4)], [], s16)) 2 rfl ?_
            exact ih x2 x3 x4 (x5 + (1)) (some (.int v1)) (some (.int x3)) (some (.int x4)) _ _ _ h
          · refine RU.ff hc ?_
            refine RU.blk (C' := (89, [some (.ref 14), some (.ref 10), some (.int x2), some (.int x3), some (.int x4), some (.int x5), some (.int v1), some (.int x3), some (.int x4)], [.int (0)], s16)) 1 rfl ?_
            obtain ⟨rfl, rfl⟩ := ret_inj h
            exact RU.ret rfl rfl rfl
noncomputable def F_X0_areSo (p1 : Int32) (p2 : Int32) (p3 : Int32) (σ : PS) : Option (Int32 × PS) :=
  L_X0_areSo fuelN  p1 p2 p3 (0) σ
set_option maxRecDepth 50000 in
theorem m_X0_areSo (p1 : Int32) (p2 : Int32) (p3 : Int32) (σ : PS) {v : Int32} {σ' : PS} (h : F_X0_areSo p1 p2 p3 σ = some (v, σ')) : PR 5 [.ref 14, .ref 10, .int p1, .int p2, .int p3] σ (some (.int v)) σ' := by
  refine PR.enter (L := [some (.ref 14), some (.ref 10), some (.int p1), some (.int p2), some (.int p3), none, none, none, none]) uT_5 uD_5 rfl rfl ?_
  unfold F_X0_areSo at h
  refine RU.blk (C' := (3, [some (.ref 14), some (.ref 10), some (.int p1), some (.int p2), some (.int p3), some (.int (0)), none, none, none], [], σ)) 2 rfl ?_
  exact (ml_X0_areSo fuelN) p1 p2 p3 (0) none none none _ _ _ h
noncomputable def F_X1_cells  (σ : PS) : Option (Int32 × PS) :=
  some (((gI σ 643) * (gI σ 644)), σ)
set_option maxRecDepth 50000 in
theorem m_X1_cells  (σ : PS) {v : Int32} {σ' : PS} (h : F_X1_cells σ = some (v, σ')) : PR 15 [.ref 10] σ (some (.int v)) σ' := by
  refine PR.enter (L := [some (.ref 10)]) uT_15 uD_15 rfl rfl ?_
  unfold F_X1_cells at h
  refine RU.blk (C' := (9, [some (.ref 10)], [.int ((gI σ 643) * (gI σ 644))], σ)) 5 rfl ?_
  obtain ⟨rfl, rfl⟩ := ret_inj h
  exact RU.ret rfl rfl rfl
noncomputable def F_X1_makeHeight (p0 : Int32) (p1 : Int32) (σ : PS) : Option (Unit × PS) :=
  (F_X4_setNumber 11 36 p0 p1 σ).bind fun q1 =>
  let s1 := q1.2
  some ((), s1)
set_option maxRecDepth 50000 in
theorem m_X1_makeHeight (p0 : Int32) (p1 : Int32) (σ : PS) {v : Unit} {σ' : PS} (h : F_X1_makeHeight p0 p1 σ = some (v, σ')) : PR 19 [.ref 10, .int p0, .int p1] σ (none) σ' := by
  refine PR.enter (L := [some (.ref 10), some (.int p0), some (.int p1)]) uT_19 uD_19 rfl rfl ?_
  unfold F_X1_makeHeight at h
  refine RU.blk (C' := (6, [some (.ref 10), some (.int p0), some (.int p1)], [.int p1, .int p0, .ref 11], σ)) 4 rfl ?_
  obtain ⟨⟨v1, s1⟩, hk, h⟩ := Option.bind_eq_some_iff.mp h
  dsimp only at h
  refine RU.call (as := [.ref 11, .int p0, .int p1]) (rest := []) (u := none) (C' := (9, [some (.ref 10), some (.int p0), some (.int p1)], [], s1)) rfl rfl (m_X4_setNumber 11 36 rfl p0 p1 σ hk) rfl rfl ?_
  obtain ⟨rfl, rfl⟩ := ret_inj h
  exact RU.ret rfl rfl rfl
noncomputable def F_X1_makeShort (p0 : Int32) (p1 : Int32) (σ : PS) : Option (Unit × PS) :=
  (F_X4_setNumber 13 4 p0 p1 σ).bind fun q1 =>
  let s1 := q1.2
  some ((), s1)
set_option maxRecDepth 50000 in
theorem m_X1_makeShort (p0 : Int32) (p1 : Int32) (σ : PS) {v : Unit} {σ' : PS} (h : F_X1_makeShort p0 p1 σ = some (v, σ')) : PR 22 [.ref 10, .int p0, .int p1] σ (none) σ' := by
  refine PR.enter (L := [some (.ref 10), some (.int p0), some (.int p1)]) uT_22 uD_22 rfl rfl ?_
  unfold F_X1_makeShort at h
  refine RU.blk (C' := (6, [some (.ref 10), some (.int p0), some (.int p1)], [.int p1, .int p0, .ref 13], σ)) 4 rfl ?_
  obtain ⟨⟨v1, s1⟩, hk, h⟩ := Option.bind_eq_some_iff.mp h
  dsimp only at h
  refine RU.call (as := [.ref 13, .int p0, .int p1]) (rest := []) (u := none) (C' := (9, [some (.ref 10), some (.int p0), some (.int p1)], [], s1)) rfl rfl (m_X4_setNumber 13 4 rfl p0 p1 σ hk) rfl rfl ?_
  obtain ⟨rfl, rfl⟩ := ret_inj h
  exact RU.ret rfl rfl rfl
noncomputable def F_X1_seenFrom (p0 : Int32) (σ : PS) : Option (Int64 × PS) :=
  some ((lshl (Int32.toInt64 (gI σ 646)) p0), σ)
set_option maxRecDepth 50000 in
theorem m_X1_seenFrom (p0 : Int32) (σ : PS) {v : Int64} {σ' : PS} (h : F_X1_seenFrom p0 σ = some (v, σ')) : PR 28 [.ref 10, .int p0] σ (some (.long v)) σ' := by
  refine PR.enter (L := [some (.ref 10), some (.int p0)]) uT_28 uD_28 rfl rfl ?_
  unfold F_X1_seenFrom at h
  refine RU.blk (C' := (7, [some (.ref 10), some (.int p0)], [.long (lshl (Int32.toInt64 (gI σ 646)) p0)], σ)) 5 rfl ?_
  obtain ⟨rfl, rfl⟩ := ret_inj h
  exact RU.ret rfl rfl rfl
noncomputable def F_X4_within (p0 : Int32) (p1 : Int32) (p2 : Int32) (σ : PS) : Option (Int32 × PS) :=
  bif cLt p0 p1 then (
    some ((0), σ)
  ) else (
    bif cGt p0 p2 then (
      some ((0), σ)
    ) else (
      some ((1), σ)
    )
  )
set_option maxRecDepth 50000 in
theorem m_X4_within (p0 : Int32) (p1 : Int32) (p2 : Int32) (σ : PS) {v : Int32} {σ' : PS} (h : F_X4_within p0 p1 p2 σ = some (v, σ')) : PR 114 [.int p0, .int p1, .int p2] σ (some (.int v)) σ' := by
  refine PR.enter (L := [some (.int p0), some (.int p1), some (.int p2)]) uT_114 uD_114 rfl rfl ?_
  unfold F_X4_within at h
  refine RU.blk (C' := (bif cLt p0 p1 then 14 else 5, [some (.int p0), some (.int p1), some (.int p2)], [], σ)) 3 rfl ?_
  rcases cnd_some h with ⟨hc, h⟩ | ⟨hc, h⟩
  · refine RU.tt hc ?_
    refine RU.blk (C' := (15, [some (.int p0), some (.int p1), some (.int p2)], [.int (0)], σ)) 1 rfl ?_
    obtain ⟨rfl, rfl⟩ := ret_inj h
    exact RU.ret rfl rfl rfl
  · refine RU.ff hc ?_
    refine RU.blk (C' := (bif cGt p0 p2 then 14 else 10, [some (.int p0), some (.int p1), some (.int p2)], [], σ)) 3 rfl ?_
    rcases cnd_some h with ⟨hc, h⟩ | ⟨hc, h⟩
    · refine RU.tt hc ?_
      refine RU.blk (C' := (15, [some (.int p0), some (.int p1), some (.int p2)], [.int (0)], σ)) 1 rfl ?_
      obtain ⟨rfl, rfl⟩ := ret_inj h
      exact RU.ret rfl rfl rfl
    · refine RU.ff hc ?_
      refine RU.blk (C' := (15, [some (.int p0), some (.int p1), some (.int p2)], [.int (1)], σ)) 2 rfl ?_
      obtain ⟨rfl, rfl⟩ := ret_inj h
      exact RU.ret rfl rfl rfl
noncomputable def F_X2_digitOf (p0 : Int32) (σ : PS) : Option (Int32 × PS) :=
  (F_X4_within p0 (48) (57) σ).bind fun q1 =>
  let v1 := q1.1
  let s1 := q1.2
  bif cEq v1 0 then (
    some ((-1), s1)
  ) else (
    some ((p0 - (48)), s1)
  )
set_option maxRecDepth 50000 in
theorem m_X2_digitOf (p0 : Int32) (σ : PS) {v : Int32} {σ' : PS} (h : F_X2_digitOf p0 σ = some (v, σ')) : PR 58 [.int p0] σ (some (.int v)) σ' := by
  refine PR.enter (L := [some (.int p0)]) uT_58 uD_58 rfl rfl ?_
  unfold F_X2_digitOf at h
  refine RU.blk (C' := (5, [some (.int p0)], [.int (57), .int (48), .int p0], σ)) 3 rfl ?_
  obtain ⟨⟨v1, s1⟩, hk, h⟩ := Option.bind_eq_some_iff.mp h
  dsimp only at h
  refine RU.call (as := [.int p0, .int (48), .int (57)]) (rest := []) (u := some (.int v1)) (C' := (8, [some (.int p0)], [.int v1], s1)) rfl rfl (m_X4_within p0 (48) (57) σ hk) rfl rfl ?_
  refine RU.blk (C' := (bif cEq v1 0 then 18 else 11, [some (.int p0)], [], s1)) 1 rfl ?_
  rcases cnd_some h with ⟨hc, h⟩ | ⟨hc, h⟩
  · refine RU.tt hc ?_
    refine RU.blk (C' := (19, [some (.int p0)], [.int (-1)], s1)) 1 rfl ?_
    obtain ⟨rfl, rfl⟩ := ret_inj h
    exact RU.ret rfl rfl rfl
  · refine RU.ff hc ?_
    refine RU.blk (C' := (19, [some (.int p0)], [.int (p0 - (48))], s1)) 4 rfl ?_
    obtain ⟨rfl, rfl⟩ := ret_inj h
    exact RU.ret rfl rfl rfl
noncomputable def F_X2_kindOf (p0 : Int32) (σ : PS) : Option (Int32 × PS) :=
  bif decide (p0 = (100)) then (
    some ((1), σ)
  ) else (
    bif decide (p0 = (103)) then (
      some ((2), σ)
    ) else (
      bif decide (p0 = (112)) then (
        some ((0), σ)
      ) else (
        some ((-1), σ)
      )
    )
  )
set_option maxRecDepth 50000 in
theorem m_X2_kindOf (p0 : Int32) (σ : PS) {v : Int32} {σ' : PS} (h : F_X2_kindOf p0 σ = some (v, σ')) : PR 59 [.int p0] σ (some (.int v)) σ' := by
  refine PR.enter (L := [some (.int p0)]) uT_59 uD_59 rfl rfl ?_
  unfold F_X2_kindOf at h
  refine RU.blk (C' := (bif decide (p0 = (100)) then 38 else (bif decide (p0 = (103)) then 40 else (bif decide (p0 = (112)) then 36 else 42)), [some (.int p0)], [], σ)) 2 rfl ?_
  rcases cnd_some h with ⟨hc, h⟩ | ⟨hc, h⟩
  · refine RU.tt hc ?_
    refine RU.blk (C' := (39, [some (.int p0)], [.int (1)], σ)) 1 rfl ?_
    obtain ⟨rfl, rfl⟩ := ret_inj h
    exact RU.ret rfl rfl rfl
  · refine RU.ff hc ?_
    rcases cnd_some h with ⟨hc, h⟩ | ⟨hc, h⟩
    · refine RU.tt hc ?_
      refine RU.blk (C' := (41, [some (.int p0)], [.int (2)], σ)) 1 rfl ?_
      obtain ⟨rfl, rfl⟩ := ret_inj h
      exact RU.ret rfl rfl rfl
    · refine RU.ff hc ?_
      rcases cnd_some h with ⟨hc, h⟩ | ⟨hc, h⟩
      · refine RU.tt hc ?_
        refine RU.blk (C' := (37, [some (.int p0)], [.int (0)], σ)) 1 rfl ?_
        obtain ⟨rfl, rfl⟩ := ret_inj h
        exact RU.ret rfl rfl rfl
      · refine RU.ff hc ?_
        refine RU.blk (C' := (43, [some (.int p0)], [.int (-1)], σ)) 1 rfl ?_
        obtain ⟨rfl, rfl⟩ := ret_inj h
        exact RU.ret rfl rfl rfl
noncomputable def L_X1_beginBy (a0 : Nat) (N0 : Nat) : Nat → Nat → Int32 → Int32 → Int32 → PS → Option (Unit × PS)
  | 0, _, _, _, _, _ => none
  | n + 1, hd, x2, x3, x4, σ => 
    bif Nat.beq hd 26 then (
      (F_X1_cells σ).bind fun q1 =>
      let v1 := q1.1
      let s1 := q1.2
      bif cGe x3 v1 then (
        (F_X1_cells s1).bind fun q2 =>
        let v2 := q2.1
        let s2 := q2.2
        bif decide ((3) = 0) then none else
        L_X1_beginBy a0 N0 n  76 x2 ((3) + v2) (0) (sI s2 645 (((x2 - ((3) + v2)) - (3)) / (3)))
      ) else (
        (F_X4_numberAt a0 N0 ((3) + x3) s1).bind fun q3 =>
        let v3 := q3.1
        let s3 := q3.2
        (F_X2_digitOf v3 s3).bind fun q4 =>
        let v4 := q4.1
        let s4 := q4.2
        (F_X1_makeHeight x3 v4 s4).bind fun q5 =>
        let s5 := q5.2
        L_X1_beginBy a0 N0 n  26 x2 (x3 + (1)) 0 s5
      )
    ) else
    bif Nat.beq hd 76 then (
      bif cGe x4 (gI σ 645) then (
        (F_X4_numberAt a0 N0 (x2 - (2)) σ).bind fun q6 =>
        let v6 := q6.1
        let s6 := q6.2
        (F_X2_digitOf v6 s6).bind fun q7 =>
        let v7 := q7.1
        let s7 := q7.2
        (F_X4_numberAt a0 N0 (x2 - (1)) s7).bind fun q8 =>
        let v8 := q8.1
        let s8 := q8.2
        (F_X2_digitOf v8 s8).bind fun q9 =>
        let v9 := q9.1
        let s9 := q9.2
        (F_X1_seenFrom (gI (sI (sI s9 647 (v7 + ((gI s7 643) * v9))) 646 ((shl (1) (gI (sI s9 647 (v7 + ((gI s7 643) * v9))) 645)) - (1))) 647) (sI (sI s9 647 (v7 + ((gI s7 643) * v9))) 646 ((shl (1) (gI (sI s9 647 (v7 + ((gI s7 643) * v9))) 645)) - (1)))).bind fun q10 =>
        let v10 := q10.1
        let s10 := q10.2
        some ((), (sI (sL s10 648 v10) 649 (0)))
      ) else (
        (F_X4_numberAt a0 N0 ((x3 + ((3) * x4)) + (1)) σ).bind fun q11 =>
        let v11 := q11.1
        let s11 := q11.2
        (F_X2_kindOf v11 s11).bind fun q12 =>
        let v12 := q12.1
        let s12 := q12.2
        (F_X4_setNumber 12 4 x4 v12 s12).bind fun q13 =>
        let s13 := q13.2
        (F_X4_numberAt a0 N0 ((x3 + ((3) * x4)) + (2)) s13).bind fun q14 =>
        let v14 := q14.1
        let s14 := q14.2
        (F_X2_digitOf v14 s14).bind fun q15 =>
        let v15 := q15.1
        let s15 := q15.2
        (F_X1_makeShort x4 v15 s15).bind fun q16 =>
        let s16 := q16.2
        L_X1_beginBy a0 N0 n  76 x2 x3 (x4 + (1)) s16
      )
    ) else
    none
set_option maxRecDepth 50000 in
theorem ml_X1_beginBy (a0 N0 : Nat) (ha0 : layT[a0]? = some (.inr (.inl N0))) (n : Nat) : (∀ (x2 : Int32) (x3 : Int32) (u4 : Option Value) (u5 : Option Value) (σ : PS) (v : Unit) (σ' : PS), L_X1_beginBy a0 N0 n 26 x2 x3 0 σ = some (v, σ') → RU ubX1_beginBy 2 44 (26, [some (.ref 10), some (.ref a0), some (.int x2), some (.int x3), u4, u5], [], σ) (none) σ') ∧ (∀ (x2 : Int32) (x3 : Int32) (x4 : Int32) (u5 : Option Value) (σ : PS) (v : Unit) (σ' : PS), L_X1_beginBy a0 N0 n 76 x2 x3 x4 σ = some (v, σ') → RU ubX1_beginBy 2 44 (76, [some (.ref 10), some (.ref a0), some (.int x2), some (.int x3), some (.int x4), u5], [], σ) (none) σ') := by
  induction n with
  | zero =>
    refine ⟨?_, ?_⟩
    · intro x2 x3 u4 u5 σ v σ' h; exact absurd (show (none : Option (Unit × PS)) = some (v, σ') from h) (by simp)
    · intro x2 x3 x4 u5 σ v σ' h; exact absurd (show (none : Option (Unit × PS)) = some (v, σ') from h) (by simp)
  | succ n ih =>
    refine ⟨?_, ?_⟩
    · intro x2 x3 u4 u5 σ v σ' h
      rw [L_X1_beginBy] at h
      rcases cnd_some h with ⟨hc, h⟩ | ⟨hc, h⟩
      rotate_left
      · exact absurd hc (by decide)
      refine RU.blk (C' := (28, [some (.ref 10), some (.ref a0), some (.int x2), some (.int x3), none, none], [.ref 10, .int x3], σ)) 2 rfl ?_
      obtain ⟨⟨v1, s1⟩, hk, h⟩ := Option.bind_eq_some_iff.mp h
      dsimp only at h
      refine RU.call (as := [.ref 10]) (rest := [.int x3]) (u := some (.int v1)) (C' := (31, [some (.ref 10), some (.ref a0), some (.int x2), some (.int x3), none, none], [.int v1, .int x3], s1)) rfl rfl (m_X1_cells σ hk) rfl rfl ?_
      refine RU.blk (C' := (bif cGe x3 v1 then 55 else 34, [some (.ref 10), some (.ref a0), some (.int x2), some (.int x3), none, none], [], s1)) 1 rfl ?_
      rcases cnd_some h with ⟨hc, h⟩ | ⟨hc, h⟩
      · refine RU.tt hc ?_
        refine RU.blk (C' := (57, [some (.ref 10), some (.ref a0), some (.int x2), some (.int x3), none, none], [.ref 10, .int (3)], s1)) 2 rfl ?_
        obtain ⟨⟨v2, s2⟩, hk, h⟩ := Option.bind_eq_some_iff.mp h
        dsimp only at h
        refine RU.call (as := [.ref 10]) (rest := [.int (3)]) (u := some (.int v2)) (C' := (60, [some (.ref 10), some (.ref a0), some (.int x2), some (.int x3), none, none], [.int v2, .int (3)], s2)) rfl rfl (m_X1_cells s1 hk) rfl rfl ?_
        refine RU.blk (C' := (69, [some (.ref 10), some (.ref a0), some (.int x2), some (.int ((3) + v2)), none, none], [.int (3), .int ((x2 - ((3) + v2)) - (3)), .ref 10], s2)) 9 rfl ?_
        obtain ⟨hv, h⟩ := cnd_e h
        refine RU.idiv rfl hv ?_
        refine RU.blk (C' := (76, [some (.ref 10), some (.ref a0), some (.int x2), some (.int ((3) + v2)), some (.int (0)), none], [], (sI s2 645 (((x2 - ((3) + v2)) - (3)) / (3))))) 3 rfl ?_
        exact ih.2 x2 ((3) + v2) (0) none _ _ _ h
      · refine RU.ff hc ?_
        refine RU.blk (C' := (40, [some (.ref 10), some (.ref a0), some (.int x2), some (.int x3), none, none], [.int ((3) + x3), .ref a0, .int x3, .ref 10], s1)) 6 rfl ?_
        obtain ⟨⟨v3, s3⟩, hk, h⟩ := Option.bind_eq_some_iff.mp h
        dsimp only at h
        refine RU.call (as := [.ref a0, .int ((3) + x3)]) (rest := [.int x3, .ref 10]) (u := some (.int v3)) (C' := (43, [some (.ref 10), some (.ref a0), some (.int x2), some (.int x3), none, none], [.int v3, .int x3, .ref 10], s3)) rfl rfl (m_X4_numberAt a0 N0 ha0 ((3) + x3) s1 hk) rfl rfl ?_
        obtain ⟨⟨v4, s4⟩, hk, h⟩ := Option.bind_eq_some_iff.mp h
        dsimp only at h
        refine RU.call (as := [.int v3]) (rest := [.int x3, .ref 10]) (u := some (.int v4)) (C' := (46, [some (.ref 10), some (.ref a0), some (.int x2), some (.int x3), none, none], [.int v4, .int x3, .ref 10], s4)) rfl rfl (m_X2_digitOf v3 s3 hk) rfl rfl ?_
        obtain ⟨⟨v5, s5⟩, hk, h⟩ := Option.bind_eq_some_iff.mp h
        dsimp only at h
        refine RU.call (as := [.ref 10, .int x3, .int v4]) (rest := []) (u := none) (C' := (49, [some (.ref 10), some (.ref a0), some (.int x2), some (.int x3), none, none], [], s5)) rfl rfl (m_X1_makeHeight x3 v4 s4 hk) rfl rfl ?_
        refine RU.blk (C' := (26, [some (.ref 10), some (.ref a0), some (.int x2), some (.int (x3 + (1))), none, none], [], s5)) 2 rfl ?_
        exact ih.1 x2 (x3 + (1)) none none _ _ _ h
    · intro x2 x3 x4 u5 σ v σ' h
      rw [L_X1_beginBy] at h
      rcases cnd_some h with ⟨hc, h⟩ | ⟨hc, h⟩
      · exact absurd hc (by decide)
      rcases cnd_some h with ⟨hc, h⟩ | ⟨hc, h⟩
      rotate_left
      · exact absurd hc (by decide)
      refine RU.blk (C' := (bif cGe x4 (gI σ 645) then 136 else 85, [some (.ref 10), some (.ref a0), some (.int x2), some (.int x3), some (.int x4), none], [], σ)) 4 rfl ?_
      rcases cnd_some h with ⟨hc, h⟩ | ⟨hc, h⟩
      · refine RU.tt hc ?_
        refine RU.blk (C' := (141, [some (.ref 10), some (.ref a0), some (.int x2), some (.int x3), some (.int x4), none], [.int (x2 - (2)), .ref a0, .ref 10], σ)) 5 rfl ?_
        obtain ⟨⟨v6, s6⟩, hk, h⟩ := Option.bind_eq_some_iff.mp h
        dsimp only at h
        refine RU.call (as := [.ref a0, .int (x2 - (2))]) (rest := [.ref 10]) (u := some (.int v6)) (C' := (144, [some (.ref 10), some (.ref a0), some (.int x2), some (.int x3), some (.int x4), none], [.int v6, .ref 10], s6)) rfl rfl (m_X4_numberAt a0 N0 ha0 (x2 - (2)) σ hk) rfl rfl ?_
        obtain ⟨⟨v7, s7⟩, hk, h⟩ := Option.bind_eq_some_iff.mp h
        dsimp only at h
        refine RU.call (as := [.int v6]) (rest := [.ref 10]) (u := some (.int v7)) (C' := (147, [some (.ref 10), some (.ref a0), some (.int x2), some (.int x3), some (.int x4), none], [.int v7, .ref 10], s7)) rfl rfl (m_X2_digitOf v6 s6 hk) rfl rfl ?_
        refine RU.blk (C' := (155, [some (.ref 10), some (.ref a0), some (.int x2), some (.int x3), some (.int x4), none], [.int (x2 - (1)), .ref a0, .int (gI s7 643), .int v7, .ref 10], s7)) 6 rfl ?_
        obtain ⟨⟨v8, s8⟩, hk, h⟩ := Option.bind_eq_some_iff.mp h
        dsimp only at h
        refine RU.call (as := [.ref a0, .int (x2 - (1))]) (rest := [.int (gI s7 643), .int v7, .ref 10]) (u := some (.int v8)) (C' := (158, [some (.ref 10), some (.ref a0), some (.int x2), some (.int x3), some (.int x4), none], [.int v8, .int (gI s7 643), .int v7, .ref 10], s8)) rfl rfl (m_X4_numberAt a0 N0 ha0 (x2 - (1)) s7 hk) rfl rfl ?_
        obtain ⟨⟨v9, s9⟩, hk, h⟩ := Option.bind_eq_some_iff.mp h
        dsimp only at h
        refine RU.call (as := [.int v8]) (rest := [.int (gI s7 643), .int v7, .ref 10]) (u := some (.int v9)) (C' := (161, [some (.ref 10), some (.ref a0), some (.int x2), some (.int x3), some (.int x4), none], [.int v9, .int (gI s7 643), .int v7, .ref 10], s9)) rfl rfl (m_X2_digitOf v8 s8 hk) rfl rfl ?_
        refine RU.blk (C' := (184, [some (.ref 10), some (.ref a0), some (.int x2), some (.int x3), some (.int x4), none], [.int (gI (sI (sI s9 647 (v7 + ((gI s7 643) * v9))) 646 ((shl (1) (gI (sI s9 647 (v7 + ((gI s7 643) * v9))) 645)) - (1))) 647), .ref 10, .ref 10], (sI (sI s9 647 (v7 + ((gI s7 643) * v9))) 646 ((shl (1) (gI (sI s9 647 (v7 + ((gI s7 643) * v9))) 645)) - (1))))) 15 rfl ?_
        obtain ⟨⟨v10, s10⟩, hk, h⟩ := Option.bind_eq_some_iff.mp h
        dsimp only at h
        refine RU.call (as := [.ref 10, .int (gI (sI (sI s9 647 (v7 + ((gI s7 643) * v9))) 646 ((shl (1) (gI (sI s9 647 (v7 + ((gI s7 643) * v9))) 645)) - (1))) 647)]) (rest := [.ref 10]) (u := some (.long v10)) (C' := (187, [some (.ref 10), some (.ref a0), some (.int x2), some (.int x3), some (.int x4), none], [.long v10, .ref 10], s10)) rfl rfl (m_X1_seenFrom (gI (sI (sI s9 647 (v7 + ((gI s7 643) * v9))) 646 ((shl (1) (gI (sI s9 647 (v7 + ((gI s7 643) * v9))) 645)) - (1))) 647) (sI (sI s9 647 (v7 + ((gI s7 643) * v9))) 646 ((shl (1) (gI (sI s9 647 (v7 + ((gI s7 643) * v9))) 645)) - (1))) hk) rfl rfl ?_
        refine RU.blk (C' := (195, [some (.ref 10), some (.ref a0), some (.int x2), some (.int x3), some (.int x4), none], [], (sI (sL s10 648 v10) 649 (0)))) 4 rfl ?_
        obtain ⟨rfl, rfl⟩ := ret_inj h
        exact RU.ret rfl rfl rfl
      · refine RU.ff hc ?_
        refine RU.blk (C' := (104, [some (.ref 10), some (.ref a0), some (.int x2), some (.int x3), some (.int x4), some (.int (x3 + ((3) * x4)))], [.int ((x3 + ((3) * x4)) + (1)), .ref a0, .int x4, .ref 12], σ)) 13 rfl ?_
        obtain ⟨⟨v11, s11⟩, hk, h⟩ := Option.bind_eq_some_iff.mp h
        dsimp only at h
        refine RU.call (as := [.ref a0, .int ((x3 + ((3) * x4)) + (1))]) (rest := [.int x4, .ref 12]) (u := some (.int v11)) (C' := (107, [some (.ref 10), some (.ref a0), some (.int x2), some (.int x3), some (.int x4), some (.int (x3 + ((3) * x4)))], [.int v11, .int x4, .ref 12], s11)) rfl rfl (m_X4_numberAt a0 N0 ha0 ((x3 + ((3) * x4)) + (1)) σ hk) rfl rfl ?_
        obtain ⟨⟨v12, s12⟩, hk, h⟩ := Option.bind_eq_some_iff.mp h
        dsimp only at h
        refine RU.call (as := [.int v11]) (rest := [.int x4, .ref 12]) (u := some (.int v12)) (C' := (110, [some (.ref 10), some (.ref a0), some (.int x2), some (.int x3), some (.int x4), some (.int (x3 + ((3) * x4)))], [.int v12, .int x4, .ref 12], s12)) rfl rfl (m_X2_kindOf v11 s11 hk) rfl rfl ?_
        obtain ⟨⟨v13, s13⟩, hk, h⟩ := Option.bind_eq_some_iff.mp h
        dsimp only at h
        refine RU.call (as := [.ref 12, .int x4, .int v12]) (rest := []) (u := none) (C' := (113, [some (.ref 10), some (.ref a0), some (.int x2), some (.int x3), some (.int x4), some (.int (x3 + ((3) * x4)))], [], s13)) rfl rfl (m_X4_setNumber 12 4 rfl x4 v12 s12 hk) rfl rfl ?_
        refine RU.blk (C' := (121, [some (.ref 10), some (.ref a0), some (.int x2), some (.int x3), some (.int x4), some (.int (x3 + ((3) * x4)))], [.int ((x3 + ((3) * x4)) + (2)), .ref a0, .int x4, .ref 10], s13)) 6 rfl ?_
        obtain ⟨⟨v14, s14⟩, hk, h⟩ := Option.bind_eq_some_iff.mp h
        dsimp only at h
        refine RU.call (as := [.ref a0, .int ((x3 + ((3) * x4)) + (2))]) (rest := [.int x4, .ref 10]) (u := some (.int v14)) (C' := (124, [some (.ref 10), some (.ref a0), some (.int x2), some (.int x3), some (.int x4), some (.int (x3 + ((3) * x4)))], [.int v14, .int x4, .ref 10], s14)) rfl rfl (m_X4_numberAt a0 N0 ha0 ((x3 + ((3) * x4)) + (2)) s13 hk) rfl rfl ?_
        obtain ⟨⟨v15, s15⟩, hk, h⟩ := Option.bind_eq_some_iff.mp h
        dsimp only at h
        refine RU.call (as := [.int v14]) (rest := [.int x4, .ref 10]) (u := some (.int v15)) (C' := (127, [some (.ref 10), some (.ref a0), some (.int x2), some (.int x3), some (.int x4), some (.int (x3 + ((3) * x4)))], [.int v15, .int x4, .ref 10], s15)) rfl rfl (m_X2_digitOf v14 s14 hk) rfl rfl ?_
        obtain ⟨⟨v16, s16⟩, hk, h⟩ := Option.bind_eq_some_iff.mp h
        dsimp only at h
        refine RU.call (as := [.ref 10, .int x4, .int v15]) (rest := []) (u := none) (C' := (130, [some (.ref 10), some (.ref a0), some (.int x2), some (.int x3), some (.int x4), some (.int (x3 + ((3) * x4)))], [], s16)) rfl rfl (m_X1_makeShort x4 v15 s15 hk) rfl rfl ?_
        refine RU.blk (C' := (76, [some (.ref 10), some (.ref a0), some (.int x2), some (.int x3), some (.int (x4 + (1))), some (.int (x3 + ((3) * x4)))], [], s16)) 2 rfl ?_
        exact ih.2 x2 x3 (x4 + (1)) (some (.int (x3 + ((3) * x4)))) _ _ _ h
noncomputable def F_X1_beginBy (a0 N0 : Nat) (p1 : Int32) (σ : PS) : Option (Unit × PS) :=
  (F_X4_numberAt a0 N0 (1) σ).bind fun q17 =>
  let v17 := q17.1
  let s17 := q17.2
  (F_X2_digitOf v17 s17).bind fun q18 =>
  let v18 := q18.1
  let s18 := q18.2
  (F_X4_numberAt a0 N0 (2) (sI s18 643 v18)).bind fun q19 =>
  let v19 := q19.1
  let s19 := q19.2
  (F_X2_digitOf v19 s19).bind fun q20 =>
  let v20 := q20.1
  let s20 := q20.2
  L_X1_beginBy a0 N0 fuelN  26 p1 (0) 0 (sI s20 644 v20)
set_option maxRecDepth 50000 in
theorem m_X1_beginBy (a0 N0 : Nat) (ha0 : layT[a0]? = some (.inr (.inl N0))) (p1 : Int32) (σ : PS) {v : Unit} {σ' : PS} (h : F_X1_beginBy a0 N0 p1 σ = some (v, σ')) : PR 7 [.ref 10, .ref a0, .int p1] σ (none) σ' := by
  refine PR.enter (L := [some (.ref 10), some (.ref a0), some (.int p1), none, none, none]) uT_7 uD_7 rfl rfl ?_
  unfold F_X1_beginBy at h
  refine RU.blk (C' := (3, [some (.ref 10), some (.ref a0), some (.int p1), none, none, none], [.int (1), .ref a0, .ref 10], σ)) 3 rfl ?_
  obtain ⟨⟨v17, s17⟩, hk, h⟩ := Option.bind_eq_some_iff.mp h
  dsimp only at h
  refine RU.call (as := [.ref a0, .int (1)]) (rest := [.ref 10]) (u := some (.int v17)) (C' := (6, [some (.ref 10), some (.ref a0), some (.int p1), none, none, none], [.int v17, .ref 10], s17)) rfl rfl (m_X4_numberAt a0 N0 ha0 (1) σ hk) rfl rfl ?_
  obtain ⟨⟨v18, s18⟩, hk, h⟩ := Option.bind_eq_some_iff.mp h
  dsimp only at h
  refine RU.call (as := [.int v17]) (rest := [.ref 10]) (u := some (.int v18)) (C' := (9, [some (.ref 10), some (.ref a0), some (.int p1), none, none, none], [.int v18, .ref 10], s18)) rfl rfl (m_X2_digitOf v17 s17 hk) rfl rfl ?_
  refine RU.blk (C' := (15, [some (.ref 10), some (.ref a0), some (.int p1), none, none, none], [.int (2), .ref a0, .ref 10], (sI s18 643 v18))) 4 rfl ?_
  obtain ⟨⟨v19, s19⟩, hk, h⟩ := Option.bind_eq_some_iff.mp h
  dsimp only at h
  refine RU.call (as := [.ref a0, .int (2)]) (rest := [.ref 10]) (u := some (.int v19)) (C' := (18, [some (.ref 10), some (.ref a0), some (.int p1), none, none, none], [.int v19, .ref 10], s19)) rfl rfl (m_X4_numberAt a0 N0 ha0 (2) (sI s18 643 v18) hk) rfl rfl ?_
  obtain ⟨⟨v20, s20⟩, hk, h⟩ := Option.bind_eq_some_iff.mp h
  dsimp only at h
  refine RU.call (as := [.int v19]) (rest := [.ref 10]) (u := some (.int v20)) (C' := (21, [some (.ref 10), some (.ref a0), some (.int p1), none, none, none], [.int v20, .ref 10], s20)) rfl rfl (m_X2_digitOf v19 s19 hk) rfl rfl ?_
  refine RU.blk (C' := (26, [some (.ref 10), some (.ref a0), some (.int p1), some (.int (0)), none, none], [], (sI s20 644 v20))) 3 rfl ?_
  exact (ml_X1_beginBy a0 N0 ha0 fuelN).1 p1 (0) none none _ _ _ h
noncomputable def F_X1_exists  (σ : PS) : Option (Int32 × PS) :=
  bif cLe (gI σ 643) 0 then (
    some ((0), σ)
  ) else (
    some ((1), σ)
  )
set_option maxRecDepth 50000 in
theorem m_X1_exists  (σ : PS) {v : Int32} {σ' : PS} (h : F_X1_exists σ = some (v, σ')) : PR 8 [.ref 10] σ (some (.int v)) σ' := by
  refine PR.enter (L := [some (.ref 10)]) uT_8 uD_8 rfl rfl ?_
  unfold F_X1_exists at h
  refine RU.blk (C' := (bif cLe (gI σ 643) 0 then 11 else 7, [some (.ref 10)], [], σ)) 3 rfl ?_
  rcases cnd_some h with ⟨hc, h⟩ | ⟨hc, h⟩
  · refine RU.tt hc ?_
    refine RU.blk (C' := (12, [some (.ref 10)], [.int (0)], σ)) 1 rfl ?_
    obtain ⟨rfl, rfl⟩ := ret_inj h
    exact RU.ret rfl rfl rfl
  · refine RU.ff hc ?_
    refine RU.blk (C' := (12, [some (.ref 10)], [.int (1)], σ)) 2 rfl ?_
    obtain ⟨rfl, rfl⟩ := ret_inj h
    exact RU.ret rfl rfl rfl
noncomputable def F_X1_columns  (σ : PS) : Option (Int32 × PS) :=
  some ((gI σ 643), σ)
set_option maxRecDepth 50000 in
theorem m_X1_columns  (σ : PS) {v : Int32} {σ' : PS} (h : F_X1_columns σ = some (v, σ')) : PR 9 [.ref 10] σ (some (.int v)) σ' := by
  refine PR.enter (L := [some (.ref 10)]) uT_9 uD_9 rfl rfl ?_
  unfold F_X1_columns at h
  refine RU.blk (C' := (4, [some (.ref 10)], [.int (gI σ 643)], σ)) 2 rfl ?_
  obtain ⟨rfl, rfl⟩ := ret_inj h
  exact RU.ret rfl rfl rfl
noncomputable def F_X1_rows  (σ : PS) : Option (Int32 × PS) :=
  some ((gI σ 644), σ)
set_option maxRecDepth 50000 in
theorem m_X1_rows  (σ : PS) {v : Int32} {σ' : PS} (h : F_X1_rows σ = some (v, σ')) : PR 10 [.ref 10] σ (some (.int v)) σ' := by
  refine PR.enter (L := [some (.ref 10)]) uT_10 uD_10 rfl rfl ?_
  unfold F_X1_rows at h
  refine RU.blk (C' := (4, [some (.ref 10)], [.int (gI σ 644)], σ)) 2 rfl ?_
  obtain ⟨rfl, rfl⟩ := ret_inj h
  exact RU.ret rfl rfl rfl
noncomputable def F_X1_lookers  (σ : PS) : Option (Int32 × PS) :=
  some ((gI σ 645), σ)
set_option maxRecDepth 50000 in
theorem m_X1_lookers  (σ : PS) {v : Int32} {σ' : PS} (h : F_X1_lookers σ = some (v, σ')) : PR 11 [.ref 10] σ (some (.int v)) σ' := by
  refine PR.enter (L := [some (.ref 10)]) uT_11 uD_11 rfl rfl ?_
  unfold F_X1_lookers at h
  refine RU.blk (C' := (4, [some (.ref 10)], [.int (gI σ 645)], σ)) 2 rfl ?_
  obtain ⟨rfl, rfl⟩ := ret_inj h
  exact RU.ret rfl rfl rfl
noncomputable def F_X1_place  (σ : PS) : Option (Int32 × PS) :=
  some ((gI σ 647), σ)
set_option maxRecDepth 50000 in
theorem m_X1_place  (σ : PS) {v : Int32} {σ' : PS} (h : F_X1_place σ = some (v, σ')) : PR 12 [.ref 10] σ (some (.int v)) σ' := by
  refine PR.enter (L := [some (.ref 10)]) uT_12 uD_12 rfl rfl ?_
  unfold F_X1_place at h
  refine RU.blk (C' := (4, [some (.ref 10)], [.int (gI σ 647)], σ)) 2 rfl ?_
  obtain ⟨rfl, rfl⟩ := ret_inj h
  exact RU.ret rfl rfl rfl
noncomputable def F_X1_seenCells  (σ : PS) : Option (Int64 × PS) :=
  some ((gL σ 648), σ)
set_option maxRecDepth 50000 in
theorem m_X1_seenCells  (σ : PS) {v : Int64} {σ' : PS} (h : F_X1_seenCells σ = some (v, σ')) : PR 13 [.ref 10] σ (some (.long v)) σ' := by
  refine PR.enter (L := [some (.ref 10)]) uT_13 uD_13 rfl rfl ?_
  unfold F_X1_seenCells at h
  refine RU.blk (C' := (4, [some (.ref 10)], [.long (gL σ 648)], σ)) 2 rfl ?_
  obtain ⟨rfl, rfl⟩ := ret_inj h
  exact RU.ret rfl rfl rfl
noncomputable def F_X1_stepsDone  (σ : PS) : Option (Int32 × PS) :=
  some ((gI σ 649), σ)
set_option maxRecDepth 50000 in
theorem m_X1_stepsDone  (σ : PS) {v : Int32} {σ' : PS} (h : F_X1_stepsDone σ = some (v, σ')) : PR 14 [.ref 10] σ (some (.int v)) σ' := by
  refine PR.enter (L := [some (.ref 10)]) uT_14 uD_14 rfl rfl ?_
  unfold F_X1_stepsDone at h
  refine RU.blk (C' := (4, [some (.ref 10)], [.int (gI σ 649)], σ)) 2 rfl ?_
  obtain ⟨rfl, rfl⟩ := ret_inj h
  exact RU.ret rfl rfl rfl
noncomputable def F_X1_isCell (p0 : Int32) (σ : PS) : Option (Int32 × PS) :=
  bif cLt p0 0 then (
    some ((0), σ)
  ) else (
    (F_X1_cells σ).bind fun q1 =>
    let v1 := q1.1
    let s1 := q1.2
    bif cGe p0 v1 then (
      some ((0), s1)
    ) else (
      some ((1), s1)
    )
  )
set_option maxRecDepth 50000 in
theorem m_X1_isCell (p0 : Int32) (σ : PS) {v : Int32} {σ' : PS} (h : F_X1_isCell p0 σ = some (v, σ')) : PR 16 [.ref 10, .int p0] σ (some (.int v)) σ' := by
  refine PR.enter (L := [some (.ref 10), some (.int p0)]) uT_16 uD_16 rfl rfl ?_
  unfold F_X1_isCell at h
  refine RU.blk (C' := (bif cLt p0 0 then 16 else 4, [some (.ref 10), some (.int p0)], [], σ)) 2 rfl ?_
  rcases cnd_some h with ⟨hc, h⟩ | ⟨hc, h⟩
  · refine RU.tt hc ?_
    refine RU.blk (C' := (17, [some (.ref 10), some (.int p0)], [.int (0)], σ)) 1 rfl ?_
    obtain ⟨rfl, rfl⟩ := ret_inj h
    exact RU.ret rfl rfl rfl
  · refine RU.ff hc ?_
    refine RU.blk (C' := (6, [some (.ref 10), some (.int p0)], [.ref 10, .int p0], σ)) 2 rfl ?_
    obtain ⟨⟨v1, s1⟩, hk, h⟩ := Option.bind_eq_some_iff.mp h
    dsimp only at h
    refine RU.call (as := [.ref 10]) (rest := [.int p0]) (u := some (.int v1)) (C' := (9, [some (.ref 10), some (.int p0)], [.int v1, .int p0], s1)) rfl rfl (m_X1_cells σ hk) rfl rfl ?_
    refine RU.blk (C' := (bif cGe p0 v1 then 16 else 12, [some (.ref 10), some (.int p0)], [], s1)) 1 rfl ?_
    rcases cnd_some h with ⟨hc, h⟩ | ⟨hc, h⟩
    · refine RU.tt hc ?_
      refine RU.blk (C' := (17, [some (.ref 10), some (.int p0)], [.int (0)], s1)) 1 rfl ?_
      obtain ⟨rfl, rfl⟩ := ret_inj h
      exact RU.ret rfl rfl rfl
    · refine RU.ff hc ?_
      refine RU.blk (C' := (17, [some (.ref 10), some (.int p0)], [.int (1)], s1)) 2 rfl ?_
      obtain ⟨rfl, rfl⟩ := ret_inj h
      exact RU.ret rfl rfl rfl
noncomputable def F_X1_isLooker (p0 : Int32) (σ : PS) : Option (Int32 × PS) :=
  bif cLt p0 0 then (
    some ((0), σ)
  ) else (
    bif cGe p0 (gI σ 645) then (
      some ((0), σ)
    ) else (
      some ((1), σ)
    )
  )
set_option maxRecDepth 50000 in
theorem m_X1_isLooker (p0 : Int32) (σ : PS) {v : Int32} {σ' : PS} (h : F_X1_isLooker p0 σ = some (v, σ')) : PR 17 [.ref 10, .int p0] σ (some (.int v)) σ' := by
  refine PR.enter (L := [some (.ref 10), some (.int p0)]) uT_17 uD_17 rfl rfl ?_
  unfold F_X1_isLooker at h
  refine RU.blk (C' := (bif cLt p0 0 then 16 else 4, [some (.ref 10), some (.int p0)], [], σ)) 2 rfl ?_
  rcases cnd_some h with ⟨hc, h⟩ | ⟨hc, h⟩
  · refine RU.tt hc ?_
    refine RU.blk (C' := (17, [some (.ref 10), some (.int p0)], [.int (0)], σ)) 1 rfl ?_
    obtain ⟨rfl, rfl⟩ := ret_inj h
    exact RU.ret rfl rfl rfl
  · refine RU.ff hc ?_
    refine RU.blk (C' := (bif cGe p0 (gI σ 645) then 16 else 12, [some (.ref 10), some (.int p0)], [], σ)) 4 rfl ?_
    rcases cnd_some h with ⟨hc, h⟩ | ⟨hc, h⟩
    · refine RU.tt hc ?_
      refine RU.blk (C' := (17, [some (.ref 10), some (.int p0)], [.int (0)], σ)) 1 rfl ?_
      obtain ⟨rfl, rfl⟩ := ret_inj h
      exact RU.ret rfl rfl rfl
    · refine RU.ff hc ?_
      refine RU.blk (C' := (17, [some (.ref 10), some (.int p0)], [.int (1)], σ)) 2 rfl ?_
      obtain ⟨rfl, rfl⟩ := ret_inj h
      exact RU.ret rfl rfl rfl
noncomputable def F_X1_heightOf (p0 : Int32) (σ : PS) : Option (Int32 × PS) :=
  (F_X4_numberAt 11 36 p0 σ).bind fun q1 =>
  let v1 := q1.1
  let s1 := q1.2
  some (v1, s1)
set_option maxRecDepth 50000 in
theorem m_X1_heightOf (p0 : Int32) (σ : PS) {v : Int32} {σ' : PS} (h : F_X1_heightOf p0 σ = some (v, σ')) : PR 18 [.ref 10, .int p0] σ (some (.int v)) σ' := by
  refine PR.enter (L := [some (.ref 10), some (.int p0)]) uT_18 uD_18 rfl rfl ?_
  unfold F_X1_heightOf at h
  refine RU.blk (C' := (5, [some (.ref 10), some (.int p0)], [.int p0, .ref 11], σ)) 3 rfl ?_
  obtain ⟨⟨v1, s1⟩, hk, h⟩ := Option.bind_eq_some_iff.mp h
  dsimp only at h
  refine RU.call (as := [.ref 11, .int p0]) (rest := []) (u := some (.int v1)) (C' := (8, [some (.ref 10), some (.int p0)], [.int v1], s1)) rfl rfl (m_X4_numberAt 11 36 rfl p0 σ hk) rfl rfl ?_
  obtain ⟨rfl, rfl⟩ := ret_inj h
  exact RU.ret rfl rfl rfl
noncomputable def F_X1_isGone (p0 : Int32) (σ : PS) : Option (Int32 × PS) :=
  bif cNe ((shr (gI σ 646) p0) &&& (1)) 0 then (
    some ((0), σ)
  ) else (
    some ((1), σ)
  )
set_option maxRecDepth 50000 in
theorem m_X1_isGone (p0 : Int32) (σ : PS) {v : Int32} {σ' : PS} (h : F_X1_isGone p0 σ = some (v, σ')) : PR 23 [.ref 10, .int p0] σ (some (.int v)) σ' := by
  refine PR.enter (L := [some (.ref 10), some (.int p0)]) uT_23 uD_23 rfl rfl ?_
  unfold F_X1_isGone at h
  refine RU.blk (C' := (bif cNe ((shr (gI σ 646) p0) &&& (1)) 0 then 15 else 11, [some (.ref 10), some (.int p0)], [], σ)) 7 rfl ?_
  rcases cnd_some h with ⟨hc, h⟩ | ⟨hc, h⟩
  · refine RU.tt hc ?_
    refine RU.blk (C' := (16, [some (.ref 10), some (.int p0)], [.int (0)], σ)) 1 rfl ?_
    obtain ⟨rfl, rfl⟩ := ret_inj h
    exact RU.ret rfl rfl rfl
  · refine RU.ff hc ?_
    refine RU.blk (C' := (16, [some (.ref 10), some (.int p0)], [.int (1)], σ)) 2 rfl ?_
    obtain ⟨rfl, rfl⟩ := ret_inj h
    exact RU.ret rfl rfl rfl
noncomputable def F_J6_bitCount_0f7a4 (p0 : Int32) (σ : PS) : Option (Int32 × PS) :=
  (some (((p0 - ((ushr p0 (1)) &&& (1431655765))) &&& (858993459)) + ((ushr (p0 - ((ushr p0 (1)) &&& (1431655765))) (2)) &&& (858993459)))).bind fun (t1 : Int32) =>
  (some (((t1 + (ushr t1 (4))) &&& (252645135)) + (ushr ((t1 + (ushr t1 (4))) &&& (252645135)) (8)))).bind fun (t2 : Int32) =>
  some (((t2 + (ushr t2 (16))) &&& (63)), σ)
set_option maxRecDepth 50000 in
theorem m_J6_bitCount_0f7a4 (p0 : Int32) (σ : PS) {v : Int32} {σ' : PS} (h : F_J6_bitCount_0f7a4 p0 σ = some (v, σ')) : PR 194 [.int p0] σ (some (.int v)) σ' := by
  refine PR.enter (L := [some (.int p0)]) uT_194 uD_194 rfl rfl ?_
  unfold F_J6_bitCount_0f7a4 at h
  refine RU.blk (C' := (24, [some (.int (((p0 - ((ushr p0 (1)) &&& (1431655765))) &&& (858993459)) + ((ushr (p0 - ((ushr p0 (1)) &&& (1431655765))) (2)) &&& (858993459))))], [], σ)) 18 rfl ?_
  obtain ⟨t1, et1, h⟩ := Option.bind_eq_some_iff.mp h
  have et1 := Option.some.inj et1
  rw [et1]
  refine RU.blk (C' := (41, [some (.int (((t1 + (ushr t1 (4))) &&& (252645135)) + (ushr ((t1 + (ushr t1 (4))) &&& (252645135)) (8))))], [], σ)) 14 rfl ?_
  obtain ⟨t2, et2, h⟩ := Option.bind_eq_some_iff.mp h
  have et2 := Option.some.inj et2
  rw [et2]
  refine RU.blk (C' := (52, [some (.int (t2 + (ushr t2 (16))))], [.int ((t2 + (ushr t2 (16))) &&& (63))], σ)) 9 rfl ?_
  obtain ⟨rfl, rfl⟩ := ret_inj h
  exact RU.ret rfl rfl rfl
noncomputable def F_X1_lookersLeft  (σ : PS) : Option (Int32 × PS) :=
  (F_J6_bitCount_0f7a4 (gI σ 646) σ).bind fun q1 =>
  let v1 := q1.1
  let s1 := q1.2
  some (v1, s1)
set_option maxRecDepth 50000 in
theorem m_X1_lookersLeft  (σ : PS) {v : Int32} {σ' : PS} (h : F_X1_lookersLeft σ = some (v, σ')) : PR 24 [.ref 10] σ (some (.int v)) σ' := by
  refine PR.enter (L := [some (.ref 10)]) uT_24 uD_24 rfl rfl ?_
  unfold F_X1_lookersLeft at h
  refine RU.blk (C' := (4, [some (.ref 10)], [.int (gI σ 646)], σ)) 2 rfl ?_
  obtain ⟨⟨v1, s1⟩, hk, h⟩ := Option.bind_eq_some_iff.mp h
  dsimp only at h
  refine RU.call (as := [.int (gI σ 646)]) (rest := []) (u := some (.int v1)) (C' := (7, [some (.ref 10)], [.int v1], s1)) rfl rfl (m_J6_bitCount_0f7a4 (gI σ 646) σ hk) rfl rfl ?_
  obtain ⟨rfl, rfl⟩ := ret_inj h
  exact RU.ret rfl rfl rfl
noncomputable def F_X1_takeOff (p0 : Int32) (σ : PS) : Option (Unit × PS) :=
  some ((), (sI σ 646 ((gI σ 646) &&& ((shl (1) p0) ^^^ (-1)))))
set_option maxRecDepth 50000 in
theorem m_X1_takeOff (p0 : Int32) (σ : PS) {v : Unit} {σ' : PS} (h : F_X1_takeOff p0 σ = some (v, σ')) : PR 25 [.ref 10, .int p0] σ (none) σ' := by
  refine PR.enter (L := [some (.ref 10), some (.int p0)]) uT_25 uD_25 rfl rfl ?_
  unfold F_X1_takeOff at h
  refine RU.blk (C' := (14, [some (.ref 10), some (.int p0)], [], (sI σ 646 ((gI σ 646) &&& ((shl (1) p0) ^^^ (-1)))))) 10 rfl ?_
  obtain ⟨rfl, rfl⟩ := ret_inj h
  exact RU.ret rfl rfl rfl
noncomputable def F_X1_bringBack (p0 : Int32) (σ : PS) : Option (Unit × PS) :=
  (F_X1_seenFrom (gI (sI σ 646 ((gI σ 646) ||| (shl (1) p0))) 647) (sI σ 646 ((gI σ 646) ||| (shl (1) p0)))).bind fun q1 =>
  let v1 := q1.1
  let s1 := q1.2
  some ((), (sL s1 648 ((gL (sI σ 646 ((gI σ 646) ||| (shl (1) p0))) 648) ||| v1)))
set_option maxRecDepth 50000 in
theorem m_X1_bringBack (p0 : Int32) (σ : PS) {v : Unit} {σ' : PS} (h : F_X1_bringBack p0 σ = some (v, σ')) : PR 26 [.ref 10, .int p0] σ (none) σ' := by
  refine PR.enter (L := [some (.ref 10), some (.int p0)]) uT_26 uD_26 rfl rfl ?_
  unfold F_X1_bringBack at h
  refine RU.blk (C' := (22, [some (.ref 10), some (.int p0)], [.int (gI (sI σ 646 ((gI σ 646) ||| (shl (1) p0))) 647), .ref 10, .long (gL (sI σ 646 ((gI σ 646) ||| (shl (1) p0))) 648), .ref 10], (sI σ 646 ((gI σ 646) ||| (shl (1) p0))))) 14 rfl ?_
  obtain ⟨⟨v1, s1⟩, hk, h⟩ := Option.bind_eq_some_iff.mp h
  dsimp only at h
  refine RU.call (as := [.ref 10, .int (gI (sI σ 646 ((gI σ 646) ||| (shl (1) p0))) 647)]) (rest := [.long (gL (sI σ 646 ((gI σ 646) ||| (shl (1) p0))) 648), .ref 10]) (u := some (.long v1)) (C' := (25, [some (.ref 10), some (.int p0)], [.long v1, .long (gL (sI σ 646 ((gI σ 646) ||| (shl (1) p0))) 648), .ref 10], s1)) rfl rfl (m_X1_seenFrom (gI (sI σ 646 ((gI σ 646) ||| (shl (1) p0))) 647) (sI σ 646 ((gI σ 646) ||| (shl (1) p0))) hk) rfl rfl ?_
  refine RU.blk (C' := (29, [some (.ref 10), some (.int p0)], [], (sL s1 648 ((gL (sI σ 646 ((gI σ 646) ||| (shl (1) p0))) 648) ||| v1)))) 2 rfl ?_
  obtain ⟨rfl, rfl⟩ := ret_inj h
  exact RU.ret rfl rfl rfl
noncomputable def F_X1_moveTo (p0 : Int32) (σ : PS) : Option (Unit × PS) :=
  (F_X1_seenFrom (gI (sI σ 647 p0) 647) (sI σ 647 p0)).bind fun q1 =>
  let v1 := q1.1
  let s1 := q1.2
  some ((), (sI (sL s1 648 ((gL (sI σ 647 p0) 648) ||| v1)) 649 ((gI (sL s1 648 ((gL (sI σ 647 p0) 648) ||| v1)) 649) + (1))))
set_option maxRecDepth 50000 in
theorem m_X1_moveTo (p0 : Int32) (σ : PS) {v : Unit} {σ' : PS} (h : F_X1_moveTo p0 σ = some (v, σ')) : PR 27 [.ref 10, .int p0] σ (none) σ' := by
  refine PR.enter (L := [some (.ref 10), some (.int p0)]) uT_27 uD_27 rfl rfl ?_
  unfold F_X1_moveTo at h
  refine RU.blk (C' := (15, [some (.ref 10), some (.int p0)], [.int (gI (sI σ 647 p0) 647), .ref 10, .long (gL (sI σ 647 p0) 648), .ref 10], (sI σ 647 p0))) 9 rfl ?_
  obtain ⟨⟨v1, s1⟩, hk, h⟩ := Option.bind_eq_some_iff.mp h
  dsimp only at h
  refine RU.call (as := [.ref 10, .int (gI (sI σ 647 p0) 647)]) (rest := [.long (gL (sI σ 647 p0) 648), .ref 10]) (u := some (.long v1)) (C' := (18, [some (.ref 10), some (.int p0)], [.long v1, .long (gL (sI σ 647 p0) 648), .ref 10], s1)) rfl rfl (m_X1_seenFrom (gI (sI σ 647 p0) 647) (sI σ 647 p0) hk) rfl rfl ?_
  refine RU.blk (C' := (32, [some (.ref 10), some (.int p0)], [], (sI (sL s1 648 ((gL (sI σ 647 p0) 648) ||| v1)) 649 ((gI (sL s1 648 ((gL (sI σ 647 p0) 648) ||| v1)) 649) + (1))))) 8 rfl ?_
  obtain ⟨rfl, rfl⟩ := ret_inj h
  exact RU.ret rfl rfl rfl
noncomputable def F_X1_toldOf (p0 : Int32) (p1 : Int32) (σ : PS) : Option (Int32 × PS) :=
  (F_X1_kindOf p0 σ).bind fun q1 =>
  let v1 := q1.1
  let s1 := q1.2
  (F_X1_shortOf p0 s1).bind fun q2 =>
  let v2 := q2.1
  let s2 := q2.2
  (F_X1_heightOf p1 s2).bind fun q3 =>
  let v3 := q3.1
  let s3 := q3.2
  (F_X1_told v1 v2 v3 s3).bind fun q4 =>
  let v4 := q4.1
  let s4 := q4.2
  some (v4, s4)
set_option maxRecDepth 50000 in
theorem m_X1_toldOf (p0 : Int32) (p1 : Int32) (σ : PS) {v : Int32} {σ' : PS} (h : F_X1_toldOf p0 p1 σ = some (v, σ')) : PR 29 [.ref 10, .int p0, .int p1] σ (some (.int v)) σ' := by
  refine PR.enter (L := [some (.ref 10), some (.int p0), some (.int p1)]) uT_29 uD_29 rfl rfl ?_
  unfold F_X1_toldOf at h
  refine RU.blk (C' := (2, [some (.ref 10), some (.int p0), some (.int p1)], [.int p0, .ref 10], σ)) 2 rfl ?_
  obtain ⟨⟨v1, s1⟩, hk, h⟩ := Option.bind_eq_some_iff.mp h
  dsimp only at h
  refine RU.call (as := [.ref 10, .int p0]) (rest := []) (u := some (.int v1)) (C' := (5, [some (.ref 10), some (.int p0), some (.int p1)], [.int v1], s1)) rfl rfl (m_X1_kindOf p0 σ hk) rfl rfl ?_
  refine RU.blk (C' := (7, [some (.ref 10), some (.int p0), some (.int p1)], [.int p0, .ref 10, .int v1], s1)) 2 rfl ?_
  obtain ⟨⟨v2, s2⟩, hk, h⟩ := Option.bind_eq_some_iff.mp h
  dsimp only at h
  refine RU.call (as := [.ref 10, .int p0]) (rest := [.int v1]) (u := some (.int v2)) (C' := (10, [some (.ref 10), some (.int p0), some (.int p1)], [.int v2, .int v1], s2)) rfl rfl (m_X1_shortOf p0 s1 hk) rfl rfl ?_
  refine RU.blk (C' := (12, [some (.ref 10), some (.int p0), some (.int p1)], [.int p1, .ref 10, .int v2, .int v1], s2)) 2 rfl ?_
  obtain ⟨⟨v3, s3⟩, hk, h⟩ := Option.bind_eq_some_iff.mp h
  dsimp only at h
  refine RU.call (as := [.ref 10, .int p1]) (rest := [.int v2, .int v1]) (u := some (.int v3)) (C' := (15, [some (.ref 10), some (.int p0), some (.int p1)], [.int v3, .int v2, .int v1], s3)) rfl rfl (m_X1_heightOf p1 s2 hk) rfl rfl ?_
  obtain ⟨⟨v4, s4⟩, hk, h⟩ := Option.bind_eq_some_iff.mp h
  dsimp only at h
  refine RU.call (as := [.int v1, .int v2, .int v3]) (rest := []) (u := some (.int v4)) (C' := (18, [some (.ref 10), some (.int p0), some (.int p1)], [.int v4], s4)) rfl rfl (m_X1_told v1 v2 v3 s3 hk) rfl rfl ?_
  obtain ⟨rfl, rfl⟩ := ret_inj h
  exact RU.ret rfl rfl rfl
noncomputable def F_X1_columnOf (p0 : Int32) (σ : PS) : Option (Int32 × PS) :=
  bif cLe (gI σ 643) 0 then (
    some ((0), σ)
  ) else (
    bif decide ((gI σ 643) = 0) then none else
    some ((irem p0 (gI σ 643)), σ)
  )
set_option maxRecDepth 50000 in
theorem m_X1_columnOf (p0 : Int32) (σ : PS) {v : Int32} {σ' : PS} (h : F_X1_columnOf p0 σ = some (v, σ')) : PR 31 [.ref 10, .int p0] σ (some (.int v)) σ' := by
  refine PR.enter (L := [some (.ref 10), some (.int p0)]) uT_31 uD_31 rfl rfl ?_
  unfold F_X1_columnOf at h
  refine RU.blk (C' := (bif cLe (gI σ 643) 0 then 16 else 7, [some (.ref 10), some (.int p0)], [], σ)) 3 rfl ?_
  rcases cnd_some h with ⟨hc, h⟩ | ⟨hc, h⟩
  · refine RU.tt hc ?_
    refine RU.blk (C' := (17, [some (.ref 10), some (.int p0)], [.int (0)], σ)) 1 rfl ?_
    obtain ⟨rfl, rfl⟩ := ret_inj h
    exact RU.ret rfl rfl rfl
  · refine RU.ff hc ?_
    refine RU.blk (C' := (12, [some (.ref 10), some (.int p0)], [.int (gI σ 643), .int p0], σ)) 3 rfl ?_
    obtain ⟨hv, h⟩ := cnd_e h
    refine RU.idiv rfl hv ?_
    refine RU.blk (C' := (17, [some (.ref 10), some (.int p0)], [.int (irem p0 (gI σ 643))], σ)) 1 rfl ?_
    obtain ⟨rfl, rfl⟩ := ret_inj h
    exact RU.ret rfl rfl rfl
noncomputable def F_X1_rowOf (p0 : Int32) (σ : PS) : Option (Int32 × PS) :=
  bif cLe (gI σ 643) 0 then (
    some ((0), σ)
  ) else (
    bif decide ((gI σ 643) = 0) then none else
    some ((p0 / (gI σ 643)), σ)
  )
set_option maxRecDepth 50000 in
theorem m_X1_rowOf (p0 : Int32) (σ : PS) {v : Int32} {σ' : PS} (h : F_X1_rowOf p0 σ = some (v, σ')) : PR 32 [.ref 10, .int p0] σ (some (.int v)) σ' := by
  refine PR.enter (L := [some (.ref 10), some (.int p0)]) uT_32 uD_32 rfl rfl ?_
  unfold F_X1_rowOf at h
  refine RU.blk (C' := (bif cLe (gI σ 643) 0 then 16 else 7, [some (.ref 10), some (.int p0)], [], σ)) 3 rfl ?_
  rcases cnd_some h with ⟨hc, h⟩ | ⟨hc, h⟩
  · refine RU.tt hc ?_
    refine RU.blk (C' := (17, [some (.ref 10), some (.int p0)], [.int (0)], σ)) 1 rfl ?_
    obtain ⟨rfl, rfl⟩ := ret_inj h
    exact RU.ret rfl rfl rfl
  · refine RU.ff hc ?_
    refine RU.blk (C' := (12, [some (.ref 10), some (.int p0)], [.int (gI σ 643), .int p0], σ)) 3 rfl ?_
    obtain ⟨hv, h⟩ := cnd_e h
    refine RU.idiv rfl hv ?_
    refine RU.blk (C' := (17, [some (.ref 10), some (.int p0)], [.int (p0 / (gI σ 643))], σ)) 1 rfl ?_
    obtain ⟨rfl, rfl⟩ := ret_inj h
    exact RU.ret rfl rfl rfl
noncomputable def F_X1_isPlace (p0 : Int32) (σ : PS) : Option (Int32 × PS) :=
  (F_X1_isCell p0 σ).bind fun q1 =>
  let v1 := q1.1
  let s1 := q1.2
  bif cEq v1 0 then (
    some ((0), s1)
  ) else (
    (F_X1_columnOf p0 s1).bind fun q2 =>
    let v2 := q2.1
    let s2 := q2.2
    bif cGt (v2 + (gI s2 645)) (gI s2 643) then (
      some ((0), s2)
    ) else (
      some ((1), s2)
    )
  )
set_option maxRecDepth 50000 in
theorem m_X1_isPlace (p0 : Int32) (σ : PS) {v : Int32} {σ' : PS} (h : F_X1_isPlace p0 σ = some (v, σ')) : PR 33 [.ref 10, .int p0] σ (some (.int v)) σ' := by
  refine PR.enter (L := [some (.ref 10), some (.int p0)]) uT_33 uD_33 rfl rfl ?_
  unfold F_X1_isPlace at h
  refine RU.blk (C' := (2, [some (.ref 10), some (.int p0)], [.int p0, .ref 10], σ)) 2 rfl ?_
  obtain ⟨⟨v1, s1⟩, hk, h⟩ := Option.bind_eq_some_iff.mp h
  dsimp only at h
  refine RU.call (as := [.ref 10, .int p0]) (rest := []) (u := some (.int v1)) (C' := (5, [some (.ref 10), some (.int p0)], [.int v1], s1)) rfl rfl (m_X1_isCell p0 σ hk) rfl rfl ?_
  refine RU.blk (C' := (bif cEq v1 0 then 29 else 8, [some (.ref 10), some (.int p0)], [], s1)) 1 rfl ?_
  rcases cnd_some h with ⟨hc, h⟩ | ⟨hc, h⟩
  · refine RU.tt hc ?_
    refine RU.blk (C' := (30, [some (.ref 10), some (.int p0)], [.int (0)], s1)) 1 rfl ?_
    obtain ⟨rfl, rfl⟩ := ret_inj h
    exact RU.ret rfl rfl rfl
  · refine RU.ff hc ?_
    refine RU.blk (C' := (10, [some (.ref 10), some (.int p0)], [.int p0, .ref 10], s1)) 2 rfl ?_
    obtain ⟨⟨v2, s2⟩, hk, h⟩ := Option.bind_eq_some_iff.mp h
    dsimp only at h
    refine RU.call (as := [.ref 10, .int p0]) (rest := []) (u := some (.int v2)) (C' := (13, [some (.ref 10), some (.int p0)], [.int v2], s2)) rfl rfl (m_X1_columnOf p0 s1 hk) rfl rfl ?_
    refine RU.blk (C' := (bif cGt (v2 + (gI s2 645)) (gI s2 643) then 29 else 25, [some (.ref 10), some (.int p0)], [], s2)) 6 rfl ?_
    rcases cnd_some h with ⟨hc, h⟩ | ⟨hc, h⟩
    · refine RU.tt hc ?_
      refine RU.blk (C' := (30, [some (.ref 10), some (.int p0)], [.int (0)], s2)) 1 rfl ?_
      obtain ⟨rfl, rfl⟩ := ret_inj h
      exact RU.ret rfl rfl rfl
    · refine RU.ff hc ?_
      refine RU.blk (C' := (30, [some (.ref 10), some (.int p0)], [.int (1)], s2)) 2 rfl ?_
      obtain ⟨rfl, rfl⟩ := ret_inj h
      exact RU.ret rfl rfl rfl
noncomputable def F_X1_nextPlace (p0 : Int32) (p1 : Int32) (σ : PS) : Option (Int32 × PS) :=
  bif decide (p1 = (0)) then (
    (F_X1_rowOf p0 σ).bind fun q1 =>
    let v1 := q1.1
    let s1 := q1.2
    bif cLe v1 0 then (
      some ((-9), s1)
    ) else (
      some ((p0 - (gI s1 643)), s1)
    )
  ) else (
    bif decide (p1 = (1)) then (
      (F_X1_columnOf p0 σ).bind fun q2 =>
      let v2 := q2.1
      let s2 := q2.2
      bif cGe (v2 + (gI s2 645)) (gI s2 643) then (
        some ((-9), s2)
      ) else (
        some ((p0 + (1)), s2)
      )
    ) else (
      bif decide (p1 = (2)) then (
        (F_X1_rowOf p0 σ).bind fun q3 =>
        let v3 := q3.1
        let s3 := q3.2
        bif cGe (v3 + (1)) (gI s3 644) then (
          some ((-9), s3)
        ) else (
          some ((p0 + (gI s3 643)), s3)
        )
      ) else (
        bif decide (p1 = (3)) then (
          (F_X1_columnOf p0 σ).bind fun q4 =>
          let v4 := q4.1
          let s4 := q4.2
          bif cLe v4 0 then (
            some ((-9), s4)
          ) else (
            some ((p0 - (1)), s4)
          )
        ) else (
          some ((-9), σ)
        )
      )
    )
  )
set_option maxRecDepth 50000 in
theorem m_X1_nextPlace (p0 : Int32) (p1 : Int32) (σ : PS) {v : Int32} {σ' : PS} (h : F_X1_nextPlace p0 p1 σ = some (v, σ')) : PR 34 [.ref 10, .int p0, .int p1] σ (some (.int v)) σ' := by
  refine PR.enter (L := [some (.ref 10), some (.int p0), some (.int p1)]) uT_34 uD_34 rfl rfl ?_
  unfold F_X1_nextPlace at h
  refine RU.blk (C' := (bif decide (p1 = (0)) then 32 else (bif decide (p1 = (1)) then 52 else (bif decide (p1 = (2)) then 78 else (bif decide (p1 = (3)) then 104 else 121))), [some (.ref 10), some (.int p0), some (.int p1)], [], σ)) 2 rfl ?_
  rcases cnd_some h with ⟨hc, h⟩ | ⟨hc, h⟩
  · refine RU.tt hc ?_
    refine RU.blk (C' := (34, [some (.ref 10), some (.int p0), some (.int p1)], [.int p0, .ref 10], σ)) 2 rfl ?_
    obtain ⟨⟨v1, s1⟩, hk, h⟩ := Option.bind_eq_some_iff.mp h
    dsimp only at h
    refine RU.call (as := [.ref 10, .int p0]) (rest := []) (u := some (.int v1)) (C' := (37, [some (.ref 10), some (.int p0), some (.int p1)], [.int v1], s1)) rfl rfl (m_X1_rowOf p0 σ hk) rfl rfl ?_
    refine RU.blk (C' := (bif cLe v1 0 then 49 else 40, [some (.ref 10), some (.int p0), some (.int p1)], [], s1)) 1 rfl ?_
    rcases cnd_some h with ⟨hc, h⟩ | ⟨hc, h⟩
    · refine RU.tt hc ?_
      refine RU.blk (C' := (51, [some (.ref 10), some (.int p0), some (.int p1)], [.int (-9)], s1)) 1 rfl ?_
      obtain ⟨rfl, rfl⟩ := ret_inj h
      exact RU.ret rfl rfl rfl
    · refine RU.ff hc ?_
      refine RU.blk (C' := (51, [some (.ref 10), some (.int p0), some (.int p1)], [.int (p0 - (gI s1 643))], s1)) 5 rfl ?_
      obtain ⟨rfl, rfl⟩ := ret_inj h
      exact RU.ret rfl rfl rfl
  · refine RU.ff hc ?_
    rcases cnd_some h with ⟨hc, h⟩ | ⟨hc, h⟩
    · refine RU.tt hc ?_
      refine RU.blk (C' := (54, [some (.ref 10), some (.int p0), some (.int p1)], [.int p0, .ref 10], σ)) 2 rfl ?_
      obtain ⟨⟨v2, s2⟩, hk, h⟩ := Option.bind_eq_some_iff.mp h
      dsimp only at h
      refine RU.call (as := [.ref 10, .int p0]) (rest := []) (u := some (.int v2)) (C' := (57, [some (.ref 10), some (.int p0), some (.int p1)], [.int v2], s2)) rfl rfl (m_X1_columnOf p0 σ hk) rfl rfl ?_
      refine RU.blk (C' := (bif cGe (v2 + (gI s2 645)) (gI s2 643) then 75 else 69, [some (.ref 10), some (.int p0), some (.int p1)], [], s2)) 6 rfl ?_
      rcases cnd_some h with ⟨hc, h⟩ | ⟨hc, h⟩
      · refine RU.tt hc ?_
        refine RU.blk (C' := (77, [some (.ref 10), some (.int p0), some (.int p1)], [.int (-9)], s2)) 1 rfl ?_
        obtain ⟨rfl, rfl⟩ := ret_inj h
        exact RU.ret rfl rfl rfl
      · refine RU.ff hc ?_
        refine RU.blk (C' := (77, [some (.ref 10), some (.int p0), some (.int p1)], [.int (p0 + (1))], s2)) 4 rfl ?_
        obtain ⟨rfl, rfl⟩ := ret_inj h
        exact RU.ret rfl rfl rfl
    · refine RU.ff hc ?_
      rcases cnd_some h with ⟨hc, h⟩ | ⟨hc, h⟩
      · refine RU.tt hc ?_
        refine RU.blk (C' := (80, [some (.ref 10), some (.int p0), some (.int p1)], [.int p0, .ref 10], σ)) 2 rfl ?_
        obtain ⟨⟨v3, s3⟩, hk, h⟩ := Option.bind_eq_some_iff.mp h
        dsimp only at h
        refine RU.call (as := [.ref 10, .int p0]) (rest := []) (u := some (.int v3)) (C' := (83, [some (.ref 10), some (.int p0), some (.int p1)], [.int v3], s3)) rfl rfl (m_X1_rowOf p0 σ hk) rfl rfl ?_
        refine RU.blk (C' := (bif cGe (v3 + (1)) (gI s3 644) then 101 else 92, [some (.ref 10), some (.int p0), some (.int p1)], [], s3)) 5 rfl ?_
        rcases cnd_some h with ⟨hc, h⟩ | ⟨hc, h⟩
        · refine RU.tt hc ?_
          refine RU.blk (C' := (103, [some (.ref 10), some (.int p0), some (.int p1)], [.int (-9)], s3)) 1 rfl ?_
          obtain ⟨rfl, rfl⟩ := ret_inj h
          exact RU.ret rfl rfl rfl
        · refine RU.ff hc ?_
          refine RU.blk (C' := (103, [some (.ref 10), some (.int p0), some (.int p1)], [.int (p0 + (gI s3 643))], s3)) 5 rfl ?_
          obtain ⟨rfl, rfl⟩ := ret_inj h
          exact RU.ret rfl rfl rfl
      · refine RU.ff hc ?_
        rcases cnd_some h with ⟨hc, h⟩ | ⟨hc, h⟩
        · refine RU.tt hc ?_
          refine RU.blk (C' := (106, [some (.ref 10), some (.int p0), some (.int p1)], [.int p0, .ref 10], σ)) 2 rfl ?_
          obtain ⟨⟨v4, s4⟩, hk, h⟩ := Option.bind_eq_some_iff.mp h
          dsimp only at h
          refine RU.call (as := [.ref 10, .int p0]) (rest := []) (u := some (.int v4)) (C' := (109, [some (.ref 10), some (.int p0), some (.int p1)], [.int v4], s4)) rfl rfl (m_X1_columnOf p0 σ hk) rfl rfl ?_
          refine RU.blk (C' := (bif cLe v4 0 then 118 else 112, [some (.ref 10), some (.int p0), some (.int p1)], [], s4)) 1 rfl ?_
          rcases cnd_some h with ⟨hc, h⟩ | ⟨hc, h⟩
          · refine RU.tt hc ?_
            refine RU.blk (C' := (120, [some (.ref 10), some (.int p0), some (.int p1)], [.int (-9)], s4)) 1 rfl ?_
            obtain ⟨rfl, rfl⟩ := ret_inj h
            exact RU.ret rfl rfl rfl
          · refine RU.ff hc ?_
            refine RU.blk (C' := (120, [some (.ref 10), some (.int p0), some (.int p1)], [.int (p0 - (1))], s4)) 4 rfl ?_
            obtain ⟨rfl, rfl⟩ := ret_inj h
            exact RU.ret rfl rfl rfl
        · refine RU.ff hc ?_
          refine RU.blk (C' := (123, [some (.ref 10), some (.int p0), some (.int p1)], [.int (-9)], σ)) 1 rfl ?_
          obtain ⟨rfl, rfl⟩ := ret_inj h
          exact RU.ret rfl rfl rfl
noncomputable def L_X1_toldTogether  : Nat → Int32 → Int32 → Int32 → PS → Option (Int32 × PS)
  | 0, _, _, _, _ => none
  | n + 1, x1, x2, x3, σ => 
    bif cGe x3 (gI σ 645) then (
      some (x2, σ)
    ) else (
      (F_X1_isGone x3 σ).bind fun q1 =>
      let v1 := q1.1
      let s1 := q1.2
      bif cNe v1 0 then (
        L_X1_toldTogether n  x1 x2 (x3 + (1)) s1
      ) else (
        (F_X1_toldOf x3 (x1 + x3) s1).bind fun q2 =>
        let v2 := q2.1
        let s2 := q2.2
        L_X1_toldTogether n  x1 (x2 + v2) (x3 + (1)) s2
      )
    )
set_option maxRecDepth 50000 in
theorem ml_X1_toldTogether  (n : Nat) : (∀ (x1 : Int32) (x2 : Int32) (x3 : Int32) (σ : PS) (v : Int32) (σ' : PS), L_X1_toldTogether n x1 x2 x3 σ = some (v, σ') → RU ubX1_toldTogether 3 66 (4, [some (.ref 10), some (.int x1), some (.int x2), some (.int x3)], [], σ) (some (.int v)) σ') := by
  induction n with
  | zero =>
    intro x1 x2 x3 σ v σ' h; exact absurd (show (none : Option (Int32 × PS)) = some (v, σ') from h) (by simp)
  | succ n ih =>
    intro x1 x2 x3 σ v σ' h
    rw [L_X1_toldTogether] at h
    refine RU.blk (C' := (bif cGe x3 (gI σ 645) then 37 else 12, [some (.ref 10), some (.int x1), some (.int x2), some (.int x3)], [], σ)) 4 rfl ?_
    rcases cnd_some h with ⟨hc, h⟩ | ⟨hc, h⟩
    · refine RU.tt hc ?_
      refine RU.blk (C' := (38, [some (.ref 10), some (.int x1), some (.int x2), some (.int x3)], [.int x2], σ)) 1 rfl ?_
      obtain ⟨rfl, rfl⟩ := ret_inj h
      exact RU.ret rfl rfl rfl
    · refine RU.ff hc ?_
      refine RU.blk (C' := (14, [some (.ref 10), some (.int x1), some (.int x2), some (.int x3)], [.int x3, .ref 10], σ)) 2 rfl ?_
      obtain ⟨⟨v1, s1⟩, hk, h⟩ := Option.bind_eq_some_iff.mp h
      dsimp only at h
      refine RU.call (as := [.ref 10, .int x3]) (rest := []) (u := some (.int v1)) (C' := (17, [some (.ref 10), some (.int x1), some (.int x2), some (.int x3)], [.int v1], s1)) rfl rfl (m_X1_isGone x3 σ hk) rfl rfl ?_
      refine RU.blk (C' := (bif cNe v1 0 then 31 else 20, [some (.ref 10), some (.int x1), some (.int x2), some (.int x3)], [], s1)) 1 rfl ?_
      rcases cnd_some h with ⟨hc, h⟩ | ⟨hc, h⟩
      · refine RU.tt hc ?_
        refine RU.blk (C' := (4, [some (.ref 10), some (.int x1), some (.int x2), some (.int (x3 + (1)))], [], s1)) 2 rfl ?_
        exact ih x1 x2 (x3 + (1)) _ _ _ h
      · refine RU.ff hc ?_
        refine RU.blk (C' := (26, [some (.ref 10), some (.int x1), some (.int x2), some (.int x3)], [.int (x1 + x3), .int x3, .ref 10, .int x2], s1)) 6 rfl ?_
        obtain ⟨⟨v2, s2⟩, hk, h⟩ := Option.bind_eq_some_iff.mp h
        dsimp only at h
        refine RU.call (as := [.ref 10, .int x3, .int (x1 + x3)]) (rest := [.int x2]) (u := some (.int v2)) (C' := (29, [some (.ref 10), some (.int x1), some (.int x2), some (.int x3)], [.int v2, .int x2], s2)) rfl rfl (m_X1_toldOf x3 (x1 + x3) s1 hk) rfl rfl ?_
        refine RU.blk (C' := (4, [some (.ref 10), some (.int x1), some (.int (x2 + v2)), some (.int (x3 + (1)))], [], s2)) 4 rfl ?_
        exact ih x1 (x2 + v2) (x3 + (1)) _ _ _ h
noncomputable def F_X1_toldTogether (p0 : Int32) (σ : PS) : Option (Int32 × PS) :=
  L_X1_toldTogether fuelN  p0 (0) (0) σ
set_option maxRecDepth 50000 in
theorem m_X1_toldTogether (p0 : Int32) (σ : PS) {v : Int32} {σ' : PS} (h : F_X1_toldTogether p0 σ = some (v, σ')) : PR 36 [.ref 10, .int p0] σ (some (.int v)) σ' := by
  refine PR.enter (L := [some (.ref 10), some (.int p0), none, none]) uT_36 uD_36 rfl rfl ?_
  unfold F_X1_toldTogether at h
  refine RU.blk (C' := (4, [some (.ref 10), some (.int p0), some (.int (0)), some (.int (0))], [], σ)) 4 rfl ?_
  exact (ml_X1_toldTogether fuelN) p0 (0) (0) _ _ _ h
noncomputable def L_X1_mostTold  : Nat → Int32 → Int32 → Int32 → PS → Option (Int32 × PS)
  | 0, _, _, _, _ => none
  | n + 1, x1, x2, x3, σ => 
    bif cGe x3 (gI σ 645) then (
      some (x2, σ)
    ) else (
      (F_X1_isGone x3 σ).bind fun q1 =>
      let v1 := q1.1
      let s1 := q1.2
      bif cNe v1 0 then (
        L_X1_mostTold n  x1 x2 (x3 + (1)) s1
      ) else (
        (F_X1_toldOf x3 (x1 + x3) s1).bind fun q2 =>
        let v2 := q2.1
        let s2 := q2.2
        L_X1_mostTold n  x1 (imax x2 v2) (x3 + (1)) s2
      )
    )
set_option maxRecDepth 50000 in
theorem ml_X1_mostTold  (n : Nat) : (∀ (x1 : Int32) (x2 : Int32) (x3 : Int32) (σ : PS) (v : Int32) (σ' : PS), L_X1_mostTold n x1 x2 x3 σ = some (v, σ') → RU ubX1_mostTold 3 66 (5, [some (.ref 10), some (.int x1), some (.int x2), some (.int x3)], [], σ) (some (.int v)) σ') := by
  induction n with
  | zero =>
    intro x1 x2 x3 σ v σ' h; exact absurd (show (none : Option (Int32 × PS)) = some (v, σ') from h) (by simp)
  | succ n ih =>
    intro x1 x2 x3 σ v σ' h
    rw [L_X1_mostTold] at h
    refine RU.blk (C' := (bif cGe x3 (gI σ 645) then 40 else 13, [some (.ref 10), some (.int x1), some (.int x2), some (.int x3)], [], σ)) 4 rfl ?_
    rcases cnd_some h with ⟨hc, h⟩ | ⟨hc, h⟩
    · refine RU.tt hc ?_
      refine RU.blk (C' := (41, [some (.ref 10), some (.int x1), some (.int x2), some (.int x3)], [.int x2], σ)) 1 rfl ?_
      obtain ⟨rfl, rfl⟩ := ret_inj h
      exact RU.ret rfl rfl rfl
    · refine RU.ff hc ?_
      refine RU.blk (C' := (15, [some (.ref 10), some (.int x1), some (.int x2), some (.int x3)], [.int x3, .ref 10], σ)) 2 rfl ?_
      obtain ⟨⟨v1, s1⟩, hk, h⟩ := Option.bind_eq_some_iff.mp h
      dsimp only at h
      refine RU.call (as := [.ref 10, .int x3]) (rest := []) (u := some (.int v1)) (C' := (18, [some (.ref 10), some (.int x1), some (.int x2), some (.int x3)], [.int v1], s1)) rfl rfl (m_X1_isGone x3 σ hk) rfl rfl ?_
      refine RU.blk (C' := (bif cNe v1 0 then 34 else 21, [some (.ref 10), some (.int x1), some (.int x2), some (.int x3)], [], s1)) 1 rfl ?_
      rcases cnd_some h with ⟨hc, h⟩ | ⟨hc, h⟩
      · refine RU.tt hc ?_
        refine RU.blk (C' := (5, [some (.ref 10), some (.int x1), some (.int x2), some (.int (x3 + (1)))], [], s1)) 2 rfl ?_
        exact ih x1 x2 (x3 + (1)) _ _ _ h
      · refine RU.ff hc ?_
        refine RU.blk (C' := (27, [some (.ref 10), some (.int x1), some (.int x2), some (.int x3)], [.int (x1 + x3), .int x3, .ref 10, .int x2], s1)) 6 rfl ?_
        obtain ⟨⟨v2, s2⟩, hk, h⟩ := Option.bind_eq_some_iff.mp h
        dsimp only at h
        refine RU.call (as := [.ref 10, .int x3, .int (x1 + x3)]) (rest := [.int x2]) (u := some (.int v2)) (C' := (30, [some (.ref 10), some (.int x1), some (.int x2), some (.int x3)], [.int v2, .int x2], s2)) rfl rfl (m_X1_toldOf x3 (x1 + x3) s1 hk) rfl rfl ?_
        refine RU.blk (C' := (5, [some (.ref 10), some (.int x1), some (.int (imax x2 v2)), some (.int (x3 + (1)))], [], s2)) 4 rfl ?_
        exact ih x1 (imax x2 v2) (x3 + (1)) _ _ _ h
noncomputable def F_X1_mostTold (p0 : Int32) (σ : PS) : Option (Int32 × PS) :=
  L_X1_mostTold fuelN  p0 (-9) (0) σ
set_option maxRecDepth 50000 in
theorem m_X1_mostTold (p0 : Int32) (σ : PS) {v : Int32} {σ' : PS} (h : F_X1_mostTold p0 σ = some (v, σ')) : PR 37 [.ref 10, .int p0] σ (some (.int v)) σ' := by
  refine PR.enter (L := [some (.ref 10), some (.int p0), none, none]) uT_37 uD_37 rfl rfl ?_
  unfold F_X1_mostTold at h
  refine RU.blk (C' := (5, [some (.ref 10), some (.int p0), some (.int (-9)), some (.int (0))], [], σ)) 4 rfl ?_
  exact (ml_X1_mostTold fuelN) p0 (-9) (0) _ _ _ h
noncomputable def F_J13_bitCount_95d88 (p0 : Int64) (σ : PS) : Option (Int32 × PS) :=
  (some (((p0 - ((lushr p0 (1)) &&& (6148914691236517205))) &&& (3689348814741910323)) + ((lushr (p0 - ((lushr p0 (1)) &&& (6148914691236517205))) (2)) &&& (3689348814741910323)))).bind fun (t1 : Int64) =>
  (some (((t1 + (lushr t1 (4))) &&& (1085102592571150095)) + (lushr ((t1 + (lushr t1 (4))) &&& (1085102592571150095)) (8)))).bind fun (t2 : Int64) =>
  some (((Int64.toInt32 ((t2 + (lushr t2 (16))) + (lushr (t2 + (lushr t2 (16))) (32)))) &&& (127)), σ)
set_option maxRecDepth 50000 in
theorem m_J13_bitCount_95d88 (p0 : Int64) (σ : PS) {v : Int32} {σ' : PS} (h : F_J13_bitCount_95d88 p0 σ = some (v, σ')) : PR 195 [.long p0] σ (some (.int v)) σ' := by
  refine PR.enter (L := [some (.long p0), none]) uT_195 uD_195 rfl rfl ?_
  unfold F_J13_bitCount_95d88 at h
  refine RU.blk (C' := (24, [some (.long (((p0 - ((lushr p0 (1)) &&& (6148914691236517205))) &&& (3689348814741910323)) + ((lushr (p0 - ((lushr p0 (1)) &&& (6148914691236517205))) (2)) &&& (3689348814741910323)))), none], [], σ)) 18 rfl ?_
  obtain ⟨t1, et1, h⟩ := Option.bind_eq_some_iff.mp h
  have et1 := Option.some.inj et1
  rw [et1]
  refine RU.blk (C' := (41, [some (.long (((t1 + (lushr t1 (4))) &&& (1085102592571150095)) + (lushr ((t1 + (lushr t1 (4))) &&& (1085102592571150095)) (8)))), none], [], σ)) 14 rfl ?_
  obtain ⟨t2, et2, h⟩ := Option.bind_eq_some_iff.mp h
  have et2 := Option.some.inj et2
  rw [et2]
  refine RU.blk (C' := (60, [some (.long ((t2 + (lushr t2 (16))) + (lushr (t2 + (lushr t2 (16))) (32)))), none], [.int ((Int64.toInt32 ((t2 + (lushr t2 (16))) + (lushr (t2 + (lushr t2 (16))) (32)))) &&& (127))], σ)) 16 rfl ?_
  obtain ⟨rfl, rfl⟩ := ret_inj h
  exact RU.ret rfl rfl rfl
noncomputable def L_X1_ofVoyage (a0 : Nat) (N0 : Nat) : Nat → Int32 → Int32 → Int32 → Int64 → Int32 → Int32 → Int32 → PS → Option (Int32 × PS)
  | 0, _, _, _, _, _, _, _, _ => none
  | n + 1, x2, x3, x4, y5, x7, x8, x9, σ => 
    bif cGe x9 x2 then (
      bif decide (x3 = (0)) then (
        (F_J13_bitCount_95d88 (y5 &&& ((gL σ 648) ^^^ (-1))) σ).bind fun q1 =>
        let v1 := q1.1
        let s1 := q1.2
        some (v1, s1)
      ) else (
        bif decide (x3 = (1)) then (
          some ((-9), σ)
        ) else (
          bif decide (x3 = (2)) then (
            some (x7, σ)
          ) else (
            bif decide (x3 = (3)) then (
              some (x8, σ)
            ) else (
              bif decide (x3 = (4)) then (
                some (x4, σ)
              ) else (
                some ((-9), σ)
              )
            )
          )
        )
      )
    ) else (
      (F_X4_numberAt a0 N0 x9 σ).bind fun q2 =>
      let v2 := q2.1
      let s2 := q2.2
      (F_X1_nextPlace x4 v2 s2).bind fun q3 =>
      let v3 := q3.1
      let s3 := q3.2
      bif cNe v3 (-9) then (
        (F_X1_seenFrom v3 s3).bind fun q4 =>
        let v4 := q4.1
        let s4 := q4.2
        (F_X1_toldTogether v3 s4).bind fun q5 =>
        let v5 := q5.1
        let s5 := q5.2
        (F_X1_mostTold v3 s5).bind fun q6 =>
        let v6 := q6.1
        let s6 := q6.2
        L_X1_ofVoyage a0 N0 n  x2 x3 v3 (y5 ||| v4) (x7 + v5) (imax x8 v6) (x9 + (1)) s6
      ) else (
        bif cNe x3 (1) then (
          some (((-100) - x9), s3)
        ) else (
          some (x9, s3)
        )
      )
    )
set_option maxRecDepth 50000 in
theorem ml_X1_ofVoyage (a0 N0 : Nat) (ha0 : layT[a0]? = some (.inr (.inl N0))) (n : Nat) : (∀ (x2 : Int32) (x3 : Int32) (x4 : Int32) (y5 : Int64) (x7 : Int32) (x8 : Int32) (x9 : Int32) (σ : PS) (v : Int32) (σ' : PS), L_X1_ofVoyage a0 N0 n x2 x3 x4 y5 x7 x8 x9 σ = some (v, σ') → RU ubX1_ofVoyage 4 89 (19, [some (.ref 10), some (.ref a0), some (.int x2), some (.int x3), some (.int x4), some (.long y5), none, some (.int x7), some (.int x8), some (.int x9)], [], σ) (some (.int v)) σ') := by
  induction n with
  | zero =>
    intro x2 x3 x4 y5 x7 x8 x9 σ v σ' h; exact absurd (show (none : Option (Int32 × PS)) = some (v, σ') from h) (by simp)
  | succ n ih =>
    intro x2 x3 x4 y5 x7 x8 x9 σ v σ' h
    rw [L_X1_ofVoyage] at h
    refine RU.blk (C' := (bif cGe x9 x2 then 103 else 25, [some (.ref 10), some (.ref a0), some (.int x2), some (.int x3), some (.int x4), some (.long y5), none, some (.int x7), some (.int x8), some (.int x9)], [], σ)) 3 rfl ?_
    rcases cnd_some h with ⟨hc, h⟩ | ⟨hc, h⟩
    · refine RU.tt hc ?_
      refine RU.blk (C' := (bif decide (x3 = (0)) then 140 else (bif decide (x3 = (1)) then 164 else (bif decide (x3 = (2)) then 155 else (bif decide (x3 = (3)) then 158 else (bif decide (x3 = (4)) then 161 else 164)))), [some (.ref 10), some (.ref a0), some (.int x2), some (.int x3), some (.int x4), some (.long y5), none, some (.int x7), some (.int x8), some (.int x9)], [], σ)) 2 rfl ?_
      rcases cnd_some h with ⟨hc, h⟩ | ⟨hc, h⟩
      · refine RU.tt hc ?_
        refine RU.blk (C' := (151, [some (.ref 10), some (.ref a0), some (.int x2), some (.int x3), some (.int x4), some (.long y5), none, some (.int x7), some (.int x8), some (.int x9)], [.long (y5 &&& ((gL σ 648) ^^^ (-1)))], σ)) 6 rfl ?_
        obtain ⟨⟨v1, s1⟩, hk, h⟩ := Option.bind_eq_some_iff.mp h
        dsimp only at h
        refine RU.call (as := [.long (y5 &&& ((gL σ 648) ^^^ (-1)))]) (rest := []) (u := some (.int v1)) (C' := (154, [some (.ref 10), some (.ref a0), some (.int x2), some (.int x3), some (.int x4), some (.long y5), none, some (.int x7), some (.int x8), some (.int x9)], [.int v1], s1)) rfl rfl (m_J13_bitCount_95d88 (y5 &&& ((gL σ 648) ^^^ (-1))) σ hk) rfl rfl ?_
        obtain ⟨rfl, rfl⟩ := ret_inj h
        exact RU.ret rfl rfl rfl
      · refine RU.ff hc ?_
        rcases cnd_some h with ⟨hc, h⟩ | ⟨hc, h⟩
        · refine RU.tt hc ?_
          refine RU.blk (C' := (166, [some (.ref 10), some (.ref a0), some (.int x2), some (.int x3), some (.int x4), some (.long y5), none, some (.int x7), some (.int x8), some (.int x9)], [.int (-9)], σ)) 1 rfl ?_
          obtain ⟨rfl, rfl⟩ := ret_inj h
          exact RU.ret rfl rfl rfl
        · refine RU.ff hc ?_
          rcases cnd_some h with ⟨hc, h⟩ | ⟨hc, h⟩
          · refine RU.tt hc ?_
            refine RU.blk (C' := (157, [some (.ref 10), some (.ref a0), some (.int x2), some (.int x3), some (.int x4), some (.long y5), none, some (.int x7), some (.int x8), some (.int x9)], [.int x7], σ)) 1 rfl ?_
            obtain ⟨rfl, rfl⟩ := ret_inj h
            exact RU.ret rfl rfl rfl
          · refine RU.ff hc ?_
            rcases cnd_some h with ⟨hc, h⟩ | ⟨hc, h⟩
            · refine RU.tt hc ?_
              refine RU.blk (C' := (160, [some (.ref 10), some (.ref a0), some (.int x2), some (.int x3), some (.int x4), some (.long y5), none, some (.int x7), some (.int x8), some (.int x9)], [.int x8], σ)) 1 rfl ?_
              obtain ⟨rfl, rfl⟩ := ret_inj h
              exact RU.ret rfl rfl rfl
            · refine RU.ff hc ?_
              rcases cnd_some h with ⟨hc, h⟩ | ⟨hc, h⟩
              · refine RU.tt hc ?_
                refine RU.blk (C' := (163, [some (.ref 10), some (.ref a0), some (.int x2), some (.int x3), some (.int x4), some (.long y5), none, some (.int x7), some (.int x8), some (.int x9)], [.int x4], σ)) 1 rfl ?_
                obtain ⟨rfl, rfl⟩ := ret_inj h
                exact RU.ret rfl rfl rfl
              · refine RU.ff hc ?_
                refine RU.blk (C' := (166, [some (.ref 10), some (.ref a0), some (.int x2), some (.int x3), some (.int x4), some (.long y5), none, some (.int x7), some (.int x8), some (.int x9)], [.int (-9)], σ)) 1 rfl ?_
                obtain ⟨rfl, rfl⟩ := ret_inj h
                exact RU.ret rfl rfl rfl
    · refine RU.ff hc ?_
      refine RU.blk (C' := (31, [some (.ref 10), some (.ref a0), some (.int x2), some (.int x3), some (.int x4), some (.long y5), none, some (.int x7), some (.int x8), some (.int x9)], [.int x9, .ref a0, .int x4, .ref 10], σ)) 4 rfl ?_
      obtain ⟨⟨v2, s2⟩, hk, h⟩ := Option.bind_eq_some_iff.mp h
      dsimp only at h
      refine RU.call (as := [.ref a0, .int x9]) (rest := [.int x4, .ref 10]) (u := some (.int v2)) (C' := (34, [some (.ref 10), some (.ref a0), some (.int x2), some (.int x3), some (.int x4), some (.long y5), none, some (.int x7), some (.int x8), some (.int x9)], [.int v2, .int x4, .ref 10], s2)) rfl rfl (m_X4_numberAt a0 N0 ha0 x9 σ hk) rfl rfl ?_
      obtain ⟨⟨v3, s3⟩, hk, h⟩ := Option.bind_eq_some_iff.mp h
      dsimp only at h
      refine RU.call (as := [.ref 10, .int x4, .int v2]) (rest := []) (u := some (.int v3)) (C' := (37, [some (.ref 10), some (.ref a0), some (.int x2), some (.int x3), some (.int x4), some (.long y5), none, some (.int x7), some (.int x8), some (.int x9)], [.int v3], s3)) rfl rfl (m_X1_nextPlace x4 v2 s2 hk) rfl rfl ?_
      refine RU.blk (C' := (bif cNe v3 (-9) then 62 else 46, [some (.ref 10), some (.ref a0), some (.int x2), some (.int x3), some (.int v3), some (.long y5), none, some (.int x7), some (.int x8), some (.int x9)], [], s3)) 4 rfl ?_
      rcases cnd_some h with ⟨hc, h⟩ | ⟨hc, h⟩
      · refine RU.tt hc ?_
        refine RU.blk (C' := (67, [some (.ref 10), some (.ref a0), some (.int x2), some (.int x3), some (.int v3), some (.long y5), none, some (.int x7), some (.int x8), some (.int x9)], [.int v3, .ref 10, .long y5], s3)) 3 rfl ?_
        obtain ⟨⟨v4, s4⟩, hk, h⟩ := Option.bind_eq_some_iff.mp h
        dsimp only at h
        refine RU.call (as := [.ref 10, .int v3]) (rest := [.long y5]) (u := some (.long v4)) (C' := (70, [some (.ref 10), some (.ref a0), some (.int x2), some (.int x3), some (.int v3), some (.long y5), none, some (.int x7), some (.int x8), some (.int x9)], [.long v4, .long y5], s4)) rfl rfl (m_X1_seenFrom v3 s3 hk) rfl rfl ?_
        refine RU.blk (C' := (78, [some (.ref 10), some (.ref a0), some (.int x2), some (.int x3), some (.int v3), some (.long (y5 ||| v4)), none, some (.int x7), some (.int x8), some (.int x9)], [.int v3, .ref 10, .int x7], s4)) 5 rfl ?_
        obtain ⟨⟨v5, s5⟩, hk, h⟩ := Option.bind_eq_some_iff.mp h
        dsimp only at h
        refine RU.call (as := [.ref 10, .int v3]) (rest := [.int x7]) (u := some (.int v5)) (C' := (81, [some (.ref 10), some (.ref a0), some (.int x2), some (.int x3), some (.int v3), some (.long (y5 ||| v4)), none, some (.int x7), some (.int x8), some (.int x9)], [.int v5, .int x7], s5)) rfl rfl (m_X1_toldTogether v3 s4 hk) rfl rfl ?_
        refine RU.blk (C' := (89, [some (.ref 10), some (.ref a0), some (.int x2), some (.int x3), some (.int v3), some (.long (y5 ||| v4)), none, some (.int (x7 + v5)), some (.int x8), some (.int x9)], [.int v3, .ref 10, .int x8], s5)) 5 rfl ?_
        obtain ⟨⟨v6, s6⟩, hk, h⟩ := Option.bind_eq_some_iff.mp h
        dsimp only at h
        refine RU.call (as := [.ref 10, .int v3]) (rest := [.int x8]) (u := some (.int v6)) (C' := (92, [some (.ref 10), some (.ref a0), some (.int x2), some (.int x3), some (.int v3), some (.long (y5 ||| v4)), none, some (.int (x7 + v5)), some (.int x8), some (.int x9)], [.int v6, .int x8], s6)) rfl rfl (m_X1_mostTold v3 s5 hk) rfl rfl ?_
        refine RU.blk (C' := (19, [some (.ref 10), some (.ref a0), some (.int x2), some (.int x3), some (.int v3), some (.long (y5 ||| v4)), none, some (.int (x7 + v5)), some (.int (imax x8 v6)), some (.int (x9 + (1)))], [], s6)) 4 rfl ?_
        exact ih x2 x3 v3 (y5 ||| v4) (x7 + v5) (imax x8 v6) (x9 + (1)) _ _ _ h
      · refine RU.ff hc ?_
        refine RU.blk (C' := (bif cNe x3 (1) then 56 else 51, [some (.ref 10), some (.ref a0), some (.int x2), some (.int x3), some (.int v3), some (.long y5), none, some (.int x7), some (.int x8), some (.int x9)], [], s3)) 3 rfl ?_
        rcases cnd_some h with ⟨hc, h⟩ | ⟨hc, h⟩
        · refine RU.tt hc ?_
          refine RU.blk (C' := (61, [some (.ref 10), some (.ref a0), some (.int x2), some (.int x3), some (.int v3), some (.long y5), none, some (.int x7), some (.int x8), some (.int x9)], [.int ((-100) - x9)], s3)) 3 rfl ?_
          obtain ⟨rfl, rfl⟩ := ret_inj h
          exact RU.ret rfl rfl rfl
        · refine RU.ff hc ?_
          refine RU.blk (C' := (61, [some (.ref 10), some (.ref a0), some (.int x2), some (.int x3), some (.int v3), some (.long y5), none, some (.int x7), some (.int x8), some (.int x9)], [.int x9], s3)) 2 rfl ?_
          obtain ⟨rfl, rfl⟩ := ret_inj h
          exact RU.ret rfl rfl rfl
noncomputable def F_X1_ofVoyage (a0 N0 : Nat) (p1 : Int32) (p2 : Int32) (σ : PS) : Option (Int32 × PS) :=
  L_X1_ofVoyage a0 N0 fuelN  p1 p2 (gI σ 647) 0 (0) (-9) (0) σ
set_option maxRecDepth 50000 in
theorem m_X1_ofVoyage (a0 N0 : Nat) (ha0 : layT[a0]? = some (.inr (.inl N0))) (p1 : Int32) (p2 : Int32) (σ : PS) {v : Int32} {σ' : PS} (h : F_X1_ofVoyage a0 N0 p1 p2 σ = some (v, σ')) : PR 35 [.ref 10, .ref a0, .int p1, .int p2] σ (some (.int v)) σ' := by
  refine PR.enter (L := [some (.ref 10), some (.ref a0), some (.int p1), some (.int p2), none, none, none, none, none, none]) uT_35 uD_35 rfl rfl ?_
  unfold F_X1_ofVoyage at h
  refine RU.blk (C' := (19, [some (.ref 10), some (.ref a0), some (.int p1), some (.int p2), some (.int (gI σ 647)), some (.long 0), none, some (.int (0)), some (.int (-9)), some (.int (0))], [], σ)) 11 rfl ?_
  exact (ml_X1_ofVoyage a0 N0 ha0 fuelN) p1 p2 (gI σ 647) 0 (0) (-9) (0) _ _ _ h
