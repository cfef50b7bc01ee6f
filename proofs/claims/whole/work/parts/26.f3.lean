noncomputable def F_X3_faultInTaking (r0 : Nat) (p0 : Int32) (p1 : Int32) (p2 : Int32) (σ : PS) : Option (Int32 × PS) :=
  (F_X3_hasNothing r0 σ).bind fun q1 =>
  let v1 := q1.1
  let s1 := q1.2
  bif cEq v1 0 then (
    bif cEq p0 (gI s1 (64 * r0 + 2)) then (
      bif cGe p2 0 then (
        (F_X3_hasCells r0 p1 p2 s1).bind fun q2 =>
        let v2 := q2.1
        let s2 := q2.2
        bif cEq v2 0 then (
          some ((3), s2)
        ) else (
          some ((0), s2)
        )
      ) else (
        some ((4), s1)
      )
    ) else (
      some ((2), s1)
    )
  ) else (
    some ((1), s1)
  )
set_option maxRecDepth 50000 in
theorem m_X3_faultInTaking (r0 : Nat) (hr0 : isSh r0 = true) (p0 : Int32) (p1 : Int32) (p2 : Int32) (σ : PS) {v : Int32} {σ' : PS} (h : F_X3_faultInTaking r0 p0 p1 p2 σ = some (v, σ')) : PR 64 [.ref r0, .int p0, .int p1, .int p2] σ (some (.int v)) σ' := by
  refine PR.enter (L := [some (.ref r0), some (.int p0), some (.int p1), some (.int p2)]) uT_64 uD_64 rfl rfl ?_
  unfold F_X3_faultInTaking at h
  refine RU.blk (C' := (1, [some (.ref r0), some (.int p0), some (.int p1), some (.int p2)], [.ref r0], σ)) 1 rfl ?_
  obtain ⟨⟨v1, s1⟩, hk, h⟩ := Option.bind_eq_some_iff.mp h
  dsimp only at h
  refine RU.call (as := [.ref r0]) (rest := []) (u := some (.int v1)) (C' := (4, [some (.ref r0), some (.int p0), some (.int p1), some (.int p2)], [.int v1], s1)) rfl (pargs_sh hr0 rfl rfl rfl rfl) (m_X3_hasNothing r0 hr0 σ hk) rfl rfl ?_
  refine RU.blk (C' := (bif cEq v1 0 then 9 else 7, [some (.ref r0), some (.int p0), some (.int p1), some (.int p2)], [], s1)) 1 rfl ?_
  rcases cnd_some h with ⟨hc, h⟩ | ⟨hc, h⟩
  · refine RU.tt hc ?_
    refine RU.blk (C' := (11, [some (.ref r0), some (.int p0), some (.int p1), some (.int p2)], [.ref r0, .int p0], s1)) 2 rfl ?_
    refine RU.getf (u := .int (gI s1 (64 * r0 + 2))) rfl (sh_lay hr0) rfl rfl ?_
    refine RU.blk (C' := (bif cEq p0 (gI s1 (64 * r0 + 2)) then 19 else 17, [some (.ref r0), some (.int p0), some (.int p1), some (.int p2)], [], s1)) 1 rfl ?_
    rcases cnd_some h with ⟨hc, h⟩ | ⟨hc, h⟩
    · refine RU.tt hc ?_
      refine RU.blk (C' := (bif cGe p2 0 then 25 else 23, [some (.ref r0), some (.int p0), some (.int p1), some (.int p2)], [], s1)) 2 rfl ?_
      rcases cnd_some h with ⟨hc, h⟩ | ⟨hc, h⟩
      · refine RU.tt hc ?_
        refine RU.blk (C' := (28, [some (.ref r0), some (.int p0), some (.int p1), some (.int p2)], [.int p2, .int p1, .ref r0], s1)) 3 rfl ?_
        obtain ⟨⟨v2, s2⟩, hk, h⟩ := Option.bind_eq_some_iff.mp h
        dsimp only at h
        refine RU.call (as := [.ref r0, .int p1, .int p2]) (rest := []) (u := some (.int v2)) (C' := (31, [some (.ref r0), some (.int p0), some (.int p1), some (.int p2)], [.int v2], s2)) rfl (pargs_sh hr0 rfl rfl rfl rfl) (m_X3_hasCells r0 hr0 p1 p2 s1 hk) rfl rfl ?_
        refine RU.blk (C' := (bif cEq v2 0 then 38 else 34, [some (.ref r0), some (.int p0), some (.int p1), some (.int p2)], [], s2)) 1 rfl ?_
        rcases cnd_some h with ⟨hc, h⟩ | ⟨hc, h⟩
        · refine RU.tt hc ?_
          refine RU.blk (C' := (39, [some (.ref r0), some (.int p0), some (.int p1), some (.int p2)], [.int (3)], s2)) 1 rfl ?_
          obtain ⟨rfl, rfl⟩ := ret_inj h
          exact RU.ret rfl rfl rfl
        · refine RU.ff hc ?_
          refine RU.blk (C' := (39, [some (.ref r0), some (.int p0), some (.int p1), some (.int p2)], [.int (0)], s2)) 2 rfl ?_
          obtain ⟨rfl, rfl⟩ := ret_inj h
          exact RU.ret rfl rfl rfl
      · refine RU.ff hc ?_
        refine RU.blk (C' := (24, [some (.ref r0), some (.int p0), some (.int p1), some (.int p2)], [.int (4)], s1)) 1 rfl ?_
        obtain ⟨rfl, rfl⟩ := ret_inj h
        exact RU.ret rfl rfl rfl
    · refine RU.ff hc ?_
      refine RU.blk (C' := (18, [some (.ref r0), some (.int p0), some (.int p1), some (.int p2)], [.int (2)], s1)) 1 rfl ?_
      obtain ⟨rfl, rfl⟩ := ret_inj h
      exact RU.ret rfl rfl rfl
  · refine RU.ff hc ?_
    refine RU.blk (C' := (8, [some (.ref r0), some (.int p0), some (.int p1), some (.int p2)], [.int (1)], s1)) 1 rfl ?_
    obtain ⟨rfl, rfl⟩ := ret_inj h
    exact RU.ret rfl rfl rfl
noncomputable def L_J7_fill_53178 (a0 : Nat) (N0 : Nat) : Nat → Int32 → Int32 → Int32 → PS → Option (Unit × PS)
  | 0, _, _, _, _ => none
  | n + 1, x1, x2, x3, σ => 
    bif cGe x2 x3 then (
      some ((), σ)
    ) else (
      bif vin x2 N0 then
      L_J7_fill_53178 a0 N0 n  x1 (x2 + (1)) x3 (sA σ a0 (Int32.toNatClampNeg x2) x1)
      else none
    )
set_option maxRecDepth 50000 in
theorem ml_J7_fill_53178 (a0 N0 : Nat) (ha0 : layT[a0]? = some (.inr (.inl N0))) (n : Nat) : (∀ (x1 : Int32) (x2 : Int32) (x3 : Int32) (σ : PS) (v : Unit) (σ' : PS), L_J7_fill_53178 a0 N0 n x1 x2 x3 σ = some (v, σ') → RU ubJ7_fill_53178 0 0 (5, [some (.ref a0), some (.int x1), some (.int x2), some (.int x3)], [], σ) (none) σ') := by
  induction n with
  | zero =>
    intro x1 x2 x3 σ v σ' h; exact absurd (show (none : Option (Unit × PS)) = some (v, σ') from h) (by simp)
  | succ n ih =>
    intro x1 x2 x3 σ v σ' h
    rw [L_J7_fill_53178] at h
    refine RU.blk (C' := (bif cGe x2 x3 then 20 else 10, [some (.ref a0), some (.int x1), some (.int x2), some (.int x3)], [], σ)) 3 rfl ?_
    rcases cnd_some h with ⟨hc, h⟩ | ⟨hc, h⟩
    · refine RU.tt hc ?_
      obtain ⟨rfl, rfl⟩ := ret_inj h
      exact RU.ret rfl rfl rfl
    · refine RU.ff hc ?_
      refine RU.blk (C' := (13, [some (.ref a0), some (.int x1), some (.int x2), some (.int x3)], [.int x1, .int x2, .ref a0], σ)) 3 rfl ?_
      obtain ⟨hv, h⟩ := cnd_n h
      refine RU.iast (N := N0) rfl ha0 hv ?_
      refine RU.blk (C' := (5, [some (.ref a0), some (.int x1), some (.int (x2 + (1))), some (.int x3)], [], (sA σ a0 (Int32.toNatClampNeg x2) x1))) 2 rfl ?_
      exact ih x1 (x2 + (1)) x3 _ _ _ h
noncomputable def F_J7_fill_53178 (a0 N0 : Nat) (p1 : Int32) (σ : PS) : Option (Unit × PS) :=
  L_J7_fill_53178 a0 N0 fuelN  p1 (0) (Int32.ofNat N0) σ
set_option maxRecDepth 50000 in
theorem m_J7_fill_53178 (a0 N0 : Nat) (ha0 : layT[a0]? = some (.inr (.inl N0))) (p1 : Int32) (σ : PS) {v : Unit} {σ' : PS} (h : F_J7_fill_53178 a0 N0 p1 σ = some (v, σ')) : PR 196 [.ref a0, .int p1] σ (none) σ' := by
  refine PR.enter (L := [some (.ref a0), some (.int p1), none, none]) uT_196 uD_196 rfl rfl ?_
  unfold F_J7_fill_53178 at h
  refine RU.blk (C' := (3, [some (.ref a0), some (.int p1), some (.int (0)), none], [.ref a0], σ)) 3 rfl ?_
  refine RU.alen (N := N0) rfl ha0 ?_
  refine RU.blk (C' := (5, [some (.ref a0), some (.int p1), some (.int (0)), some (.int (Int32.ofNat N0))], [], σ)) 1 rfl ?_
  exact (ml_J7_fill_53178 a0 N0 ha0 fuelN) p1 (0) (Int32.ofNat N0) _ _ _ h
noncomputable def F_X3_renew (r0 : Nat) (p0 : Int32) (p1 : Int32) (σ : PS) : Option (Unit × PS) :=
  (F_J7_fill_53178 (r0 + 1) 60 (0) (sI (sI σ (64 * r0 + 2) p0) (64 * r0 + 1) p1)).bind fun q1 =>
  let s1 := q1.2
  some ((), s1)
set_option maxRecDepth 50000 in
theorem m_X3_renew (r0 : Nat) (hr0 : isSh r0 = true) (p0 : Int32) (p1 : Int32) (σ : PS) {v : Unit} {σ' : PS} (h : F_X3_renew r0 p0 p1 σ = some (v, σ')) : PR 65 [.ref r0, .int p0, .int p1] σ (none) σ' := by
  refine PR.enter (L := [some (.ref r0), some (.int p0), some (.int p1)]) uT_65 uD_65 rfl rfl ?_
  unfold F_X3_renew at h
  refine RU.blk (C' := (2, [some (.ref r0), some (.int p0), some (.int p1)], [.int p0, .ref r0], σ)) 2 rfl ?_
  refine RU.putI rfl (sh_lay hr0) rfl ?_
  refine RU.blk (C' := (7, [some (.ref r0), some (.int p0), some (.int p1)], [.int p1, .ref r0], (sI σ (64 * r0 + 2) p0))) 2 rfl ?_
  refine RU.putI rfl (sh_lay hr0) rfl ?_
  refine RU.blk (C' := (11, [some (.ref r0), some (.int p0), some (.int p1)], [.ref r0], (sI (sI σ (64 * r0 + 2) p0) (64 * r0 + 1) p1))) 1 rfl ?_
  refine RU.getf (u := .ref (r0 + 1)) rfl (sh_lay hr0) rfl rfl ?_
  refine RU.blk (C' := (15, [some (.ref r0), some (.int p0), some (.int p1)], [.int (0), .ref (r0 + 1)], (sI (sI σ (64 * r0 + 2) p0) (64 * r0 + 1) p1))) 1 rfl ?_
  obtain ⟨⟨v1, s1⟩, hk, h⟩ := Option.bind_eq_some_iff.mp h
  dsimp only at h
  refine RU.call (as := [.ref (r0 + 1), .int (0)]) (rest := []) (u := none) (C' := (18, [some (.ref r0), some (.int p0), some (.int p1)], [], s1)) rfl rfl (m_J7_fill_53178 (r0 + 1) 60 (sh_arr hr0) (0) (sI (sI σ (64 * r0 + 2) p0) (64 * r0 + 1) p1) hk) rfl rfl ?_
  obtain ⟨rfl, rfl⟩ := ret_inj h
  exact RU.ret rfl rfl rfl
noncomputable def F_X3_clear (r0 : Nat) (σ : PS) : Option (Unit × PS) :=
  some ((), (sI σ (64 * r0 + 1) (-1)))
set_option maxRecDepth 50000 in
theorem m_X3_clear (r0 : Nat) (hr0 : isSh r0 = true) (σ : PS) {v : Unit} {σ' : PS} (h : F_X3_clear r0 σ = some (v, σ')) : PR 66 [.ref r0] σ (none) σ' := by
  refine PR.enter (L := [some (.ref r0)]) uT_66 uD_66 rfl rfl ?_
  unfold F_X3_clear at h
  refine RU.blk (C' := (2, [some (.ref r0)], [.int (-1), .ref r0], σ)) 2 rfl ?_
  refine RU.putI rfl (sh_lay hr0) rfl ?_
  obtain ⟨rfl, rfl⟩ := ret_inj h
  exact RU.ret rfl rfl rfl
noncomputable def F_X3_read (r0 : Nat) (p0 : Int32) (σ : PS) : Option (Int32 × PS) :=
  (F_X4_numberAt (r0 + 1) 60 p0 σ).bind fun q1 =>
  let v1 := q1.1
  let s1 := q1.2
  some (v1, s1)
set_option maxRecDepth 50000 in
theorem m_X3_read (r0 : Nat) (hr0 : isSh r0 = true) (p0 : Int32) (σ : PS) {v : Int32} {σ' : PS} (h : F_X3_read r0 p0 σ = some (v, σ')) : PR 67 [.ref r0, .int p0] σ (some (.int v)) σ' := by
  refine PR.enter (L := [some (.ref r0), some (.int p0)]) uT_67 uD_67 rfl rfl ?_
  unfold F_X3_read at h
  refine RU.blk (C' := (1, [some (.ref r0), some (.int p0)], [.ref r0], σ)) 1 rfl ?_
  refine RU.getf (u := .ref (r0 + 1)) rfl (sh_lay hr0) rfl rfl ?_
  refine RU.blk (C' := (5, [some (.ref r0), some (.int p0)], [.int p0, .ref (r0 + 1)], σ)) 1 rfl ?_
  obtain ⟨⟨v1, s1⟩, hk, h⟩ := Option.bind_eq_some_iff.mp h
  dsimp only at h
  refine RU.call (as := [.ref (r0 + 1), .int p0]) (rest := []) (u := some (.int v1)) (C' := (8, [some (.ref r0), some (.int p0)], [.int v1], s1)) rfl rfl (m_X4_numberAt (r0 + 1) 60 (sh_arr hr0) p0 σ hk) rfl rfl ?_
  obtain ⟨rfl, rfl⟩ := ret_inj h
  exact RU.ret rfl rfl rfl
noncomputable def F_X3_cutToLane (r0 : Nat) (p0 : Int32) (σ : PS) : Option (Int32 × PS) :=
  bif cNe (gI σ (64 * r0 + 2)) 0 then (
    bif cNe (gI σ (64 * r0 + 2)) (1) then (
      some (p0, σ)
    ) else (
      some ((i2s p0), σ)
    )
  ) else (
    some ((i2b p0), σ)
  )
set_option maxRecDepth 50000 in
theorem m_X3_cutToLane (r0 : Nat) (hr0 : isSh r0 = true) (p0 : Int32) (σ : PS) {v : Int32} {σ' : PS} (h : F_X3_cutToLane r0 p0 σ = some (v, σ')) : PR 69 [.ref r0, .int p0] σ (some (.int v)) σ' := by
  refine PR.enter (L := [some (.ref r0), some (.int p0)]) uT_69 uD_69 rfl rfl ?_
  unfold F_X3_cutToLane at h
  refine RU.blk (C' := (1, [some (.ref r0), some (.int p0)], [.ref r0], σ)) 1 rfl ?_
  refine RU.getf (u := .int (gI σ (64 * r0 + 2))) rfl (sh_lay hr0) rfl rfl ?_
  refine RU.blk (C' := (bif cNe (gI σ (64 * r0 + 2)) 0 then 10 else 7, [some (.ref r0), some (.int p0)], [], σ)) 1 rfl ?_
  rcases cnd_some h with ⟨hc, h⟩ | ⟨hc, h⟩
  · refine RU.tt hc ?_
    refine RU.blk (C' := (11, [some (.ref r0), some (.int p0)], [.ref r0], σ)) 1 rfl ?_
    refine RU.getf (u := .int (gI σ (64 * r0 + 2))) rfl (sh_lay hr0) rfl rfl ?_
    refine RU.blk (C' := (bif cNe (gI σ (64 * r0 + 2)) (1) then 23 else 18, [some (.ref r0), some (.int p0)], [], σ)) 2 rfl ?_
    rcases cnd_some h with ⟨hc, h⟩ | ⟨hc, h⟩
    · refine RU.tt hc ?_
      refine RU.blk (C' := (24, [some (.ref r0), some (.int p0)], [.int p0], σ)) 1 rfl ?_
      obtain ⟨rfl, rfl⟩ := ret_inj h
      exact RU.ret rfl rfl rfl
    · refine RU.ff hc ?_
      refine RU.blk (C' := (24, [some (.ref r0), some (.int p0)], [.int (i2s p0)], σ)) 3 rfl ?_
      obtain ⟨rfl, rfl⟩ := ret_inj h
      exact RU.ret rfl rfl rfl
  · refine RU.ff hc ?_
    refine RU.blk (C' := (9, [some (.ref r0), some (.int p0)], [.int (i2b p0)], σ)) 2 rfl ?_
    obtain ⟨rfl, rfl⟩ := ret_inj h
    exact RU.ret rfl rfl rfl
noncomputable def F_X3_write (r0 : Nat) (p0 : Int32) (p1 : Int32) (σ : PS) : Option (Unit × PS) :=
  (F_X3_cutToLane r0 p1 σ).bind fun q1 =>
  let v1 := q1.1
  let s1 := q1.2
  (F_X4_setNumber (r0 + 1) 60 p0 v1 s1).bind fun q2 =>
  let s2 := q2.2
  some ((), s2)
set_option maxRecDepth 50000 in
theorem m_X3_write (r0 : Nat) (hr0 : isSh r0 = true) (p0 : Int32) (p1 : Int32) (σ : PS) {v : Unit} {σ' : PS} (h : F_X3_write r0 p0 p1 σ = some (v, σ')) : PR 68 [.ref r0, .int p0, .int p1] σ (none) σ' := by
  refine PR.enter (L := [some (.ref r0), some (.int p0), some (.int p1)]) uT_68 uD_68 rfl rfl ?_
  unfold F_X3_write at h
  refine RU.blk (C' := (1, [some (.ref r0), some (.int p0), some (.int p1)], [.ref r0], σ)) 1 rfl ?_
  refine RU.getf (u := .ref (r0 + 1)) rfl (sh_lay hr0) rfl rfl ?_
  refine RU.blk (C' := (7, [some (.ref r0), some (.int p0), some (.int p1)], [.int p1, .ref r0, .int p0, .ref (r0 + 1)], σ)) 3 rfl ?_
  obtain ⟨⟨v1, s1⟩, hk, h⟩ := Option.bind_eq_some_iff.mp h
  dsimp only at h
  refine RU.call (as := [.ref r0, .int p1]) (rest := [.int p0, .ref (r0 + 1)]) (u := some (.int v1)) (C' := (10, [some (.ref r0), some (.int p0), some (.int p1)], [.int v1, .int p0, .ref (r0 + 1)], s1)) rfl (pargs_sh hr0 rfl rfl rfl rfl) (m_X3_cutToLane r0 hr0 p1 σ hk) rfl rfl ?_
  obtain ⟨⟨v2, s2⟩, hk, h⟩ := Option.bind_eq_some_iff.mp h
  dsimp only at h
  refine RU.call (as := [.ref (r0 + 1), .int p0, .int v1]) (rest := []) (u := none) (C' := (13, [some (.ref r0), some (.int p0), some (.int p1)], [], s2)) rfl rfl (m_X4_setNumber (r0 + 1) 60 (sh_arr hr0) p0 v1 s1 hk) rfl rfl ?_
  obtain ⟨rfl, rfl⟩ := ret_inj h
  exact RU.ret rfl rfl rfl
noncomputable def F_X4_sheetOf (p0 : Int32) (σ : PS) : Option (Option Nat × PS) :=
  bif cLt p0 0 then (
    some (none, σ)
  ) else (
    bif cGe p0 4 then (
      some (none, σ)
    ) else (
      bif vin p0 4 then
      some ((some (2 * (Int32.toNatClampNeg p0) + 2)), σ)
      else none
    )
  )
set_option maxRecDepth 50000 in
theorem m_X4_sheetOf (p0 : Int32) (σ : PS) {v : Option Nat} {σ' : PS} (h : F_X4_sheetOf p0 σ = some (v, σ')) : PR 102 [.ref 0, .int p0] σ (some (prf v)) σ' := by
  refine PR.enter (L := [some (.ref 0), some (.int p0)]) uT_102 uD_102 rfl rfl ?_
  unfold F_X4_sheetOf at h
  refine RU.blk (C' := (bif cLt p0 0 then 22 else 4, [some (.ref 0), some (.int p0)], [], σ)) 2 rfl ?_
  rcases cnd_some h with ⟨hc, h⟩ | ⟨hc, h⟩
  · refine RU.tt hc ?_
    refine RU.blk (C' := (23, [some (.ref 0), some (.int p0)], [.null], σ)) 1 rfl ?_
    obtain ⟨rfl, rfl⟩ := ret_inj h
    exact RU.ret rfl rfl rfl
  · refine RU.ff hc ?_
    refine RU.blk (C' := (bif cGe p0 4 then 22 else 13, [some (.ref 0), some (.int p0)], [], σ)) 5 rfl ?_
    rcases cnd_some h with ⟨hc, h⟩ | ⟨hc, h⟩
    · refine RU.tt hc ?_
      refine RU.blk (C' := (23, [some (.ref 0), some (.int p0)], [.null], σ)) 1 rfl ?_
      obtain ⟨rfl, rfl⟩ := ret_inj h
      exact RU.ret rfl rfl rfl
    · refine RU.ff hc ?_
      refine RU.blk (C' := (18, [some (.ref 0), some (.int p0)], [.int p0, .ref 1], σ)) 3 rfl ?_
      obtain ⟨hv, h⟩ := cnd_n h
      refine RU.aald rfl hv ?_
      refine RU.blk (C' := (23, [some (.ref 0), some (.int p0)], [.ref (2 * (Int32.toNatClampNeg p0) + 2)], σ)) 1 rfl ?_
      obtain ⟨rfl, rfl⟩ := ret_inj h
      exact RU.ret rfl rfl rfl
noncomputable def F_X4_faulted (p0 : Int32) (σ : PS) : Option (Int32 × PS) :=
  some (((-10) - p0), (sI σ 5 p0))
set_option maxRecDepth 50000 in
theorem m_X4_faulted (p0 : Int32) (σ : PS) {v : Int32} {σ' : PS} (h : F_X4_faulted p0 σ = some (v, σ')) : PR 103 [.ref 0, .int p0] σ (some (.int v)) σ' := by
  refine PR.enter (L := [some (.ref 0), some (.int p0)]) uT_103 uD_103 rfl rfl ?_
  unfold F_X4_faulted at h
  refine RU.blk (C' := (9, [some (.ref 0), some (.int p0)], [.int ((-10) - p0)], (sI σ 5 p0))) 6 rfl ?_
  obtain ⟨rfl, rfl⟩ := ret_inj h
  exact RU.ret rfl rfl rfl
noncomputable def L_X4_readInto (a0 : Nat) (N0 : Nat) (r2 : Nat) : Nat → Int32 → Int32 → Int32 → PS → Option (Unit × PS)
  | 0, _, _, _, _ => none
  | n + 1, x2, x3, x4, σ => 
    bif cGe x4 x3 then (
      some ((), σ)
    ) else (
      (F_X3_read r2 (x2 + x4) σ).bind fun q1 =>
      let v1 := q1.1
      let s1 := q1.2
      (F_X4_setNumber a0 N0 x4 v1 s1).bind fun q2 =>
      let s2 := q2.2
      L_X4_readInto a0 N0 r2 n  x2 x3 (x4 + (1)) s2
    )
set_option maxRecDepth 50000 in
theorem ml_X4_readInto (a0 N0 : Nat) (ha0 : layT[a0]? = some (.inr (.inl N0))) (r2 : Nat) (hr2 : isSh r2 = true) (n : Nat) : (∀ (x2 : Int32) (x3 : Int32) (x4 : Int32) (σ : PS) (v : Unit) (σ' : PS), L_X4_readInto a0 N0 r2 n x2 x3 x4 σ = some (v, σ') → RU ubX4_readInto 2 42 (3, [some (.ref a0), some (.ref r2), some (.int x2), some (.int x3), some (.int x4)], [], σ) (none) σ') := by
  induction n with
  | zero =>
    intro x2 x3 x4 σ v σ' h; exact absurd (show (none : Option (Unit × PS)) = some (v, σ') from h) (by simp)
  | succ n ih =>
    intro x2 x3 x4 σ v σ' h
    rw [L_X4_readInto] at h
    refine RU.blk (C' := (bif cGe x4 x3 then 29 else 9, [some (.ref a0), some (.ref r2), some (.int x2), some (.int x3), some (.int x4)], [], σ)) 3 rfl ?_
    rcases cnd_some h with ⟨hc, h⟩ | ⟨hc, h⟩
    · refine RU.tt hc ?_
      obtain ⟨rfl, rfl⟩ := ret_inj h
      exact RU.ret rfl rfl rfl
    · refine RU.ff hc ?_
      refine RU.blk (C' := (17, [some (.ref a0), some (.ref r2), some (.int x2), some (.int x3), some (.int x4)], [.int (x2 + x4), .ref r2, .int x4, .ref a0], σ)) 6 rfl ?_
      obtain ⟨⟨v1, s1⟩, hk, h⟩ := Option.bind_eq_some_iff.mp h
      dsimp only at h
      refine RU.call (as := [.ref r2, .int (x2 + x4)]) (rest := [.int x4, .ref a0]) (u := some (.int v1)) (C' := (20, [some (.ref a0), some (.ref r2), some (.int x2), some (.int x3), some (.int x4)], [.int v1, .int x4, .ref a0], s1)) rfl (pargs_sh hr2 rfl rfl rfl rfl) (m_X3_read r2 hr2 (x2 + x4) σ hk) rfl rfl ?_
      obtain ⟨⟨v2, s2⟩, hk, h⟩ := Option.bind_eq_some_iff.mp h
      dsimp only at h
      refine RU.call (as := [.ref a0, .int x4, .int v1]) (rest := []) (u := none) (C' := (23, [some (.ref a0), some (.ref r2), some (.int x2), some (.int x3), some (.int x4)], [], s2)) rfl rfl (m_X4_setNumber a0 N0 ha0 x4 v1 s1 hk) rfl rfl ?_
      refine RU.blk (C' := (3, [some (.ref a0), some (.ref r2), some (.int x2), some (.int x3), some (.int (x4 + (1)))], [], s2)) 2 rfl ?_
      exact ih x2 x3 (x4 + (1)) _ _ _ h
noncomputable def F_X4_readInto (a0 N0 : Nat) (r2 : Nat) (p2 : Int32) (p3 : Int32) (σ : PS) : Option (Unit × PS) :=
  L_X4_readInto a0 N0 r2 fuelN  p2 p3 (0) σ
set_option maxRecDepth 50000 in
theorem m_X4_readInto (a0 N0 : Nat) (ha0 : layT[a0]? = some (.inr (.inl N0))) (r2 : Nat) (hr2 : isSh r2 = true) (p2 : Int32) (p3 : Int32) (σ : PS) {v : Unit} {σ' : PS} (h : F_X4_readInto a0 N0 r2 p2 p3 σ = some (v, σ')) : PR 105 [.ref a0, .ref r2, .int p2, .int p3] σ (none) σ' := by
  refine PR.enter (L := [some (.ref a0), some (.ref r2), some (.int p2), some (.int p3), none]) uT_105 uD_105 rfl rfl ?_
  unfold F_X4_readInto at h
  refine RU.blk (C' := (3, [some (.ref a0), some (.ref r2), some (.int p2), some (.int p3), some (.int (0))], [], σ)) 2 rfl ?_
  exact (ml_X4_readInto a0 N0 ha0 r2 hr2 fuelN) p2 p3 (0) _ _ _ h
noncomputable def F_X4_take (r1 : Nat) (p1 : Int32) (p2 : Int32) (p3 : Int32) (σ : PS) : Option (Int32 × PS) :=
  (F_X3_faultInTaking r1 p1 p2 p3 σ).bind fun q1 =>
  let v1 := q1.1
  let s1 := q1.2
  bif cNe v1 0 then (
    some (v1, s1)
  ) else (
    (F_X4_readInto 18 60 r1 p2 p3 s1).bind fun q2 =>
    let s2 := q2.2
    some (v1, s2)
  )
set_option maxRecDepth 50000 in
theorem m_X4_take (r1 : Nat) (hr1 : isSh r1 = true) (p1 : Int32) (p2 : Int32) (p3 : Int32) (σ : PS) {v : Int32} {σ' : PS} (h : F_X4_take r1 p1 p2 p3 σ = some (v, σ')) : PR 104 [.ref 0, .ref r1, .int p1, .int p2, .int p3] σ (some (.int v)) σ' := by
  refine PR.enter (L := [some (.ref 0), some (.ref r1), some (.int p1), some (.int p2), some (.int p3), none]) uT_104 uD_104 rfl rfl ?_
  unfold F_X4_take at h
  refine RU.blk (C' := (5, [some (.ref 0), some (.ref r1), some (.int p1), some (.int p2), some (.int p3), none], [.int p3, .int p2, .int p1, .ref r1], σ)) 4 rfl ?_
  obtain ⟨⟨v1, s1⟩, hk, h⟩ := Option.bind_eq_some_iff.mp h
  dsimp only at h
  refine RU.call (as := [.ref r1, .int p1, .int p2, .int p3]) (rest := []) (u := some (.int v1)) (C' := (8, [some (.ref 0), some (.ref r1), some (.int p1), some (.int p2), some (.int p3), none], [.int v1], s1)) rfl (pargs_sh hr1 rfl rfl rfl rfl) (m_X3_faultInTaking r1 hr1 p1 p2 p3 σ hk) rfl rfl ?_
  refine RU.blk (C' := (bif cNe v1 0 then 26 else 15, [some (.ref 0), some (.ref r1), some (.int p1), some (.int p2), some (.int p3), some (.int v1)], [], s1)) 3 rfl ?_
  rcases cnd_some h with ⟨hc, h⟩ | ⟨hc, h⟩
  · refine RU.tt hc ?_
    refine RU.blk (C' := (28, [some (.ref 0), some (.ref r1), some (.int p1), some (.int p2), some (.int p3), some (.int v1)], [.int v1], s1)) 1 rfl ?_
    obtain ⟨rfl, rfl⟩ := ret_inj h
    exact RU.ret rfl rfl rfl
  · refine RU.ff hc ?_
    refine RU.blk (C' := (23, [some (.ref 0), some (.ref r1), some (.int p1), some (.int p2), some (.int p3), some (.int v1)], [.int p3, .int p2, .ref r1, .ref 18], s1)) 5 rfl ?_
    obtain ⟨⟨v2, s2⟩, hk, h⟩ := Option.bind_eq_some_iff.mp h
    dsimp only at h
    refine RU.call (as := [.ref 18, .ref r1, .int p2, .int p3]) (rest := []) (u := none) (C' := (26, [some (.ref 0), some (.ref r1), some (.int p1), some (.int p2), some (.int p3), some (.int v1)], [], s2)) rfl rfl (m_X4_readInto 18 60 rfl r1 hr1 p2 p3 s1 hk) rfl rfl ?_
    refine RU.blk (C' := (28, [some (.ref 0), some (.ref r1), some (.int p1), some (.int p2), some (.int p3), some (.int v1)], [.int v1], s2)) 1 rfl ?_
    obtain ⟨rfl, rfl⟩ := ret_inj h
    exact RU.ret rfl rfl rfl
noncomputable def F_X4_isLane (p0 : Int32) (σ : PS) : Option (Int32 × PS) :=
  (F_X4_within p0 (0) (2) σ).bind fun q1 =>
  let v1 := q1.1
  let s1 := q1.2
  bif okb v1 then some (v1, s1) else none
set_option maxRecDepth 50000 in
theorem m_X4_isLane (p0 : Int32) (σ : PS) {v : Int32} {σ' : PS} (h : F_X4_isLane p0 σ = some (v, σ')) : PR 115 [.int p0] σ (some (.int v)) σ' := by
  refine PR.enter (L := [some (.int p0)]) uT_115 uD_115 rfl rfl ?_
  unfold F_X4_isLane at h
  refine RU.blk (C' := (3, [some (.int p0)], [.int (2), .int (0), .int p0], σ)) 3 rfl ?_
  obtain ⟨⟨v1, s1⟩, hk, h⟩ := Option.bind_eq_some_iff.mp h
  dsimp only at h
  refine RU.call (as := [.int p0, .int (0), .int (2)]) (rest := []) (u := some (.int v1)) (C' := (6, [some (.int p0)], [.int v1], s1)) rfl rfl (m_X4_within p0 (0) (2) σ hk) rfl rfl ?_
  obtain ⟨hb, h⟩ := cnd_n h
  obtain ⟨rfl, rfl⟩ := ret_inj h
  exact RU.ret rfl (pret_b hb) rfl
noncomputable def F_X4_sea (p0 : Int32) (p1 : Int32) (p2 : Int32) (p3 : Int32) (σ : PS) : Option (Int32 × PS) :=
  (F_X4_sheetOf p0 (sI σ 5 (0))).bind fun q1 =>
  let s1 := q1.2
  match q1.1 with
  | none => (
    some ((-1), s1)
  )
  | some r51 => bif isSh r51 then (
    (F_X4_isLane p1 s1).bind fun q2 =>
    let v2 := q2.1
    let s2 := q2.2
    bif cNe v2 0 then (
      (F_X4_take r51 p1 p2 p3 s2).bind fun q3 =>
      let v3 := q3.1
      let s3 := q3.2
      bif cEq v3 0 then (
        (F_X2_firstFault 18 60 p3 s3).bind fun q4 =>
        let v4 := q4.1
        let s4 := q4.2
        bif cEq v4 (-1) then (
          (F_X1_beginBy 18 60 p3 s4).bind fun q5 =>
          let s5 := q5.2
          (F_X0_keep (0) s5).bind fun q6 =>
          let s6 := q6.2
          (F_X1_lookers s6).bind fun q7 =>
          let v7 := q7.1
          let s7 := q7.2
          some (v7, s7)
        ) else (
          some (((-100) - v4), s4)
        )
      ) else (
        (F_X4_faulted v3 s3).bind fun q8 =>
        let v8 := q8.1
        let s8 := q8.2
        some (v8, s8)
      )
    ) else (
      some ((-2), s2)
    )
  ) else none
set_option maxRecDepth 50000 in
theorem m_X4_sea (p0 : Int32) (p1 : Int32) (p2 : Int32) (p3 : Int32) (σ : PS) {v : Int32} {σ' : PS} (h : F_X4_sea p0 p1 p2 p3 σ = some (v, σ')) : PR 71 [.ref 0, .int p0, .int p1, .int p2, .int p3] σ (some (.int v)) σ' := by
  refine PR.enter (L := [some (.ref 0), some (.int p0), some (.int p1), some (.int p2), some (.int p3), none, none, none]) uT_71 uD_71 rfl rfl ?_
  unfold F_X4_sea at h
  refine RU.blk (C' := (7, [some (.ref 0), some (.int p0), some (.int p1), some (.int p2), some (.int p3), none, none, none], [.int p0, .ref 0], (sI σ 5 (0)))) 5 rfl ?_
  obtain ⟨⟨v1, s1⟩, hk, h⟩ := Option.bind_eq_some_iff.mp h
  dsimp only at h
  cases v1 with
  | none =>
    dsimp only at h
    refine RU.call (as := [.ref 0, .int p0]) (rest := []) (u := some .null) (C' := (10, [some (.ref 0), some (.int p0), some (.int p1), some (.int p2), some (.int p3), none, none, none], [.null], s1)) rfl rfl (m_X4_sheetOf p0 (sI σ 5 (0)) hk) rfl rfl ?_
    refine RU.blk (C' := (18, [some (.ref 0), some (.int p0), some (.int p1), some (.int p2), some (.int p3), some (.null), none, none], [.int (-1)], s1)) 4 rfl ?_
    obtain ⟨rfl, rfl⟩ := ret_inj h
    exact RU.ret rfl rfl rfl
  | some r51 =>
    dsimp only at h
    obtain ⟨hr51, h⟩ := cnd_n h
    refine RU.call (as := [.ref 0, .int p0]) (rest := []) (u := some (.ref r51)) (C' := (10, [some (.ref 0), some (.int p0), some (.int p1), some (.int p2), some (.int p3), none, none, none], [.ref r51], s1)) rfl rfl (m_X4_sheetOf p0 (sI σ 5 (0)) hk) rfl rfl ?_
    refine RU.blk (C' := (20, [some (.ref 0), some (.int p0), some (.int p1), some (.int p2), some (.int p3), some (.ref r51), none, none], [.int p1], s1)) 4 rfl ?_
    obtain ⟨⟨v2, s2⟩, hk, h⟩ := Option.bind_eq_some_iff.mp h
    dsimp only at h
    refine RU.call (as := [.int p1]) (rest := []) (u := some (.int v2)) (C' := (23, [some (.ref 0), some (.int p0), some (.int p1), some (.int p2), some (.int p3), some (.ref r51), none, none], [.int v2], s2)) rfl rfl (m_X4_isLane p1 s1 hk) rfl rfl ?_
    refine RU.blk (C' := (bif cNe v2 0 then 29 else 26, [some (.ref 0), some (.int p0), some (.int p1), some (.int p2), some (.int p3), some (.ref r51), none, none], [], s2)) 1 rfl ?_
    rcases cnd_some h with ⟨hc, h⟩ | ⟨hc, h⟩
    · refine RU.tt hc ?_
      refine RU.blk (C' := (36, [some (.ref 0), some (.int p0), some (.int p1), some (.int p2), some (.int p3), some (.ref r51), none, none], [.int p3, .int p2, .int p1, .ref r51, .ref 0], s2)) 5 rfl ?_
      obtain ⟨⟨v3, s3⟩, hk, h⟩ := Option.bind_eq_some_iff.mp h
      dsimp only at h
      refine RU.call (as := [.ref 0, .ref r51, .int p1, .int p2, .int p3]) (rest := []) (u := some (.int v3)) (C' := (39, [some (.ref 0), some (.int p0), some (.int p1), some (.int p2), some (.int p3), some (.ref r51), none, none], [.int v3], s3)) rfl rfl (m_X4_take r51 hr51 p1 p2 p3 s2 hk) rfl rfl ?_
      refine RU.blk (C' := (bif cEq v3 0 then 53 else 46, [some (.ref 0), some (.int p0), some (.int p1), some (.int p2), some (.int p3), some (.ref r51), some (.int v3), none], [], s3)) 3 rfl ?_
      rcases cnd_some h with ⟨hc, h⟩ | ⟨hc, h⟩
      · refine RU.tt hc ?_
        refine RU.blk (C' := (59, [some (.ref 0), some (.int p0), some (.int p1), some (.int p2), some (.int p3), some (.ref r51), some (.int v3), none], [.int p3, .ref 18], s3)) 3 rfl ?_
        obtain ⟨⟨v4, s4⟩, hk, h⟩ := Option.bind_eq_some_iff.mp h
        dsimp only at h
        refine RU.call (as := [.ref 18, .int p3]) (rest := []) (u := some (.int v4)) (C' := (62, [some (.ref 0), some (.int p0), some (.int p1), some (.int p2), some (.int p3), some (.ref r51), some (.int v3), none], [.int v4], s4)) rfl rfl (m_X2_firstFault 18 60 rfl p3 s3 hk) rfl rfl ?_
        refine RU.blk (C' := (bif cEq v4 (-1) then 76 else 70, [some (.ref 0), some (.int p0), some (.int p1), some (.int p2), some (.int p3), some (.ref r51), some (.int v3), some (.int v4)], [], s4)) 4 rfl ?_
        rcases cnd_some h with ⟨hc, h⟩ | ⟨hc, h⟩
        · refine RU.tt hc ?_
          refine RU.blk (C' := (86, [some (.ref 0), some (.int p0), some (.int p1), some (.int p2), some (.int p3), some (.ref r51), some (.int v3), some (.int v4)], [.int p3, .ref 18, .ref 10], s4)) 5 rfl ?_
          obtain ⟨⟨v5, s5⟩, hk, h⟩ := Option.bind_eq_some_iff.mp h
          dsimp only at h
          refine RU.call (as := [.ref 10, .ref 18, .int p3]) (rest := []) (u := none) (C' := (89, [some (.ref 0), some (.int p0), some (.int p1), some (.int p2), some (.int p3), some (.ref r51), some (.int v3), some (.int v4)], [], s5)) rfl rfl (m_X1_beginBy 18 60 rfl p3 s4 hk) rfl rfl ?_
          refine RU.blk (C' := (94, [some (.ref 0), some (.int p0), some (.int p1), some (.int p2), some (.int p3), some (.ref r51), some (.int v3), some (.int v4)], [.int (0), .ref 14], s5)) 3 rfl ?_
          obtain ⟨⟨v6, s6⟩, hk, h⟩ := Option.bind_eq_some_iff.mp h
          dsimp only at h
          refine RU.call (as := [.ref 14, .int (0)]) (rest := []) (u := none) (C' := (97, [some (.ref 0), some (.int p0), some (.int p1), some (.int p2), some (.int p3), some (.ref r51), some (.int v3), some (.int v4)], [], s6)) rfl rfl (m_X0_keep (0) s5 hk) rfl rfl ?_
          refine RU.blk (C' := (101, [some (.ref 0), some (.int p0), some (.int p1), some (.int p2), some (.int p3), some (.ref r51), some (.int v3), some (.int v4)], [.ref 10], s6)) 2 rfl ?_
          obtain ⟨⟨v7, s7⟩, hk, h⟩ := Option.bind_eq_some_iff.mp h
          dsimp only at h
          refine RU.call (as := [.ref 10]) (rest := []) (u := some (.int v7)) (C' := (104, [some (.ref 0), some (.int p0), some (.int p1), some (.int p2), some (.int p3), some (.ref r51), some (.int v3), some (.int v4)], [.int v7], s7)) rfl rfl (m_X1_lookers s6 hk) rfl rfl ?_
          obtain ⟨rfl, rfl⟩ := ret_inj h
          exact RU.ret rfl rfl rfl
        · refine RU.ff hc ?_
          refine RU.blk (C' := (75, [some (.ref 0), some (.int p0), some (.int p1), some (.int p2), some (.int p3), some (.ref r51), some (.int v3), some (.int v4)], [.int ((-100) - v4)], s4)) 3 rfl ?_
          obtain ⟨rfl, rfl⟩ := ret_inj h
          exact RU.ret rfl rfl rfl
      · refine RU.ff hc ?_
        refine RU.blk (C' := (49, [some (.ref 0), some (.int p0), some (.int p1), some (.int p2), some (.int p3), some (.ref r51), some (.int v3), none], [.int v3, .ref 0], s3)) 2 rfl ?_
        obtain ⟨⟨v8, s8⟩, hk, h⟩ := Option.bind_eq_some_iff.mp h
        dsimp only at h
        refine RU.call (as := [.ref 0, .int v3]) (rest := []) (u := some (.int v8)) (C' := (52, [some (.ref 0), some (.int p0), some (.int p1), some (.int p2), some (.int p3), some (.ref r51), some (.int v3), none], [.int v8], s8)) rfl rfl (m_X4_faulted v3 s3 hk) rfl rfl ?_
        obtain ⟨rfl, rfl⟩ := ret_inj h
        exact RU.ret rfl rfl rfl
    · refine RU.ff hc ?_
      refine RU.blk (C' := (28, [some (.ref 0), some (.int p0), some (.int p1), some (.int p2), some (.int p3), some (.ref r51), none, none], [.int (-2)], s2)) 1 rfl ?_
      obtain ⟨rfl, rfl⟩ := ret_inj h
      exact RU.ret rfl rfl rfl
noncomputable def F_X4_ofLooker (p0 : Int32) (p1 : Int32) (σ : PS) : Option (Int32 × PS) :=
  (F_X1_isLooker p0 σ).bind fun q1 =>
  let v1 := q1.1
  let s1 := q1.2
  bif cNe v1 0 then (
    bif decide (p1 = (0)) then (
      (F_X1_kindOf p0 s1).bind fun q2 =>
      let v2 := q2.1
      let s2 := q2.2
      some (v2, s2)
    ) else (
      bif decide (p1 = (1)) then (
        (F_X1_shortOf p0 s1).bind fun q3 =>
        let v3 := q3.1
        let s3 := q3.2
        some (v3, s3)
      ) else (
        bif decide (p1 = (2)) then (
          (F_X1_isGone p0 s1).bind fun q4 =>
          let v4 := q4.1
          let s4 := q4.2
          bif cEq v4 0 then (
            some ((0), s4)
          ) else (
            some ((1), s4)
          )
        ) else (
          bif decide (p1 = (3)) then (
            (F_X1_place s1).bind fun q5 =>
            let v5 := q5.1
            let s5 := q5.2
            some ((v5 + p0), s5)
          ) else (
            bif decide (p1 = (4)) then (
              (F_X1_place s1).bind fun q6 =>
              let v6 := q6.1
              let s6 := q6.2
              (F_X1_toldOf p0 (v6 + p0) s6).bind fun q7 =>
              let v7 := q7.1
              let s7 := q7.2
              some (v7, s7)
            ) else (
              some ((-2), s1)
            )
          )
        )
      )
    )
  ) else (
    some ((-1), s1)
  )
set_option maxRecDepth 50000 in
theorem m_X4_ofLooker (p0 : Int32) (p1 : Int32) (σ : PS) {v : Int32} {σ' : PS} (h : F_X4_ofLooker p0 p1 σ = some (v, σ')) : PR 72 [.ref 0, .int p0, .int p1] σ (some (.int v)) σ' := by
  refine PR.enter (L := [some (.ref 0), some (.int p0), some (.int p1)]) uT_72 uD_72 rfl rfl ?_
  unfold F_X4_ofLooker at h
  refine RU.blk (C' := (5, [some (.ref 0), some (.int p0), some (.int p1)], [.int p0, .ref 10], σ)) 3 rfl ?_
  obtain ⟨⟨v1, s1⟩, hk, h⟩ := Option.bind_eq_some_iff.mp h
  dsimp only at h
  refine RU.call (as := [.ref 10, .int p0]) (rest := []) (u := some (.int v1)) (C' := (8, [some (.ref 0), some (.int p0), some (.int p1)], [.int v1], s1)) rfl rfl (m_X1_isLooker p0 σ hk) rfl rfl ?_
  refine RU.blk (C' := (bif cNe v1 0 then 13 else 11, [some (.ref 0), some (.int p0), some (.int p1)], [], s1)) 1 rfl ?_
  rcases cnd_some h with ⟨hc, h⟩ | ⟨hc, h⟩
  · refine RU.tt hc ?_
    refine RU.blk (C' := (bif decide (p1 = (0)) then 48 else (bif decide (p1 = (1)) then 57 else (bif decide (p1 = (2)) then 66 else (bif decide (p1 = (3)) then 83 else (bif decide (p1 = (4)) then 93 else 111)))), [some (.ref 0), some (.int p0), some (.int p1)], [], s1)) 2 rfl ?_
    rcases cnd_some h with ⟨hc, h⟩ | ⟨hc, h⟩
    · refine RU.tt hc ?_
      refine RU.blk (C' := (53, [some (.ref 0), some (.int p0), some (.int p1)], [.int p0, .ref 10], s1)) 3 rfl ?_
      obtain ⟨⟨v2, s2⟩, hk, h⟩ := Option.bind_eq_some_iff.mp h
      dsimp only at h
      refine RU.call (as := [.ref 10, .int p0]) (rest := []) (u := some (.int v2)) (C' := (56, [some (.ref 0), some (.int p0), some (.int p1)], [.int v2], s2)) rfl rfl (m_X1_kindOf p0 s1 hk) rfl rfl ?_
      obtain ⟨rfl, rfl⟩ := ret_inj h
      exact RU.ret rfl rfl rfl
    · refine RU.ff hc ?_
      rcases cnd_some h with ⟨hc, h⟩ | ⟨hc, h⟩
      · refine RU.tt hc ?_
        refine RU.blk (C' := (62, [some (.ref 0), some (.int p0), some (.int p1)], [.int p0, .ref 10], s1)) 3 rfl ?_
        obtain ⟨⟨v3, s3⟩, hk, h⟩ := Option.bind_eq_some_iff.mp h
        dsimp only at h
        refine RU.call (as := [.ref 10, .int p0]) (rest := []) (u := some (.int v3)) (C' := (65, [some (.ref 0), some (.int p0), some (.int p1)], [.int v3], s3)) rfl rfl (m_X1_shortOf p0 s1 hk) rfl rfl ?_
        obtain ⟨rfl, rfl⟩ := ret_inj h
        exact RU.ret rfl rfl rfl
      · refine RU.ff hc ?_
        rcases cnd_some h with ⟨hc, h⟩ | ⟨hc, h⟩
        · refine RU.tt hc ?_
          refine RU.blk (C' := (71, [some (.ref 0), some (.int p0), some (.int p1)], [.int p0, .ref 10], s1)) 3 rfl ?_
          obtain ⟨⟨v4, s4⟩, hk, h⟩ := Option.bind_eq_some_iff.mp h
          dsimp only at h
          refine RU.call (as := [.ref 10, .int p0]) (rest := []) (u := some (.int v4)) (C' := (74, [some (.ref 0), some (.int p0), some (.int p1)], [.int v4], s4)) rfl rfl (m_X1_isGone p0 s1 hk) rfl rfl ?_
          refine RU.blk (C' := (bif cEq v4 0 then 81 else 77, [some (.ref 0), some (.int p0), some (.int p1)], [], s4)) 1 rfl ?_
          rcases cnd_some h with ⟨hc, h⟩ | ⟨hc, h⟩
          · refine RU.tt hc ?_
            refine RU.blk (C' := (82, [some (.ref 0), some (.int p0), some (.int p1)], [.int (0)], s4)) 1 rfl ?_
            obtain ⟨rfl, rfl⟩ := ret_inj h
            exact RU.ret rfl rfl rfl
          · refine RU.ff hc ?_
            refine RU.blk (C' := (82, [some (.ref 0), some (.int p0), some (.int p1)], [.int (1)], s4)) 2 rfl ?_
            obtain ⟨rfl, rfl⟩ := ret_inj h
            exact RU.ret rfl rfl rfl
        · refine RU.ff hc ?_
          rcases cnd_some h with ⟨hc, h⟩ | ⟨hc, h⟩
          · refine RU.tt hc ?_
            refine RU.blk (C' := (87, [some (.ref 0), some (.int p0), some (.int p1)], [.ref 10], s1)) 2 rfl ?_
            obtain ⟨⟨v5, s5⟩, hk, h⟩ := Option.bind_eq_some_iff.mp h
            dsimp only at h
            refine RU.call (as := [.ref 10]) (rest := []) (u := some (.int v5)) (C' := (90, [some (.ref 0), some (.int p0), some (.int p1)], [.int v5], s5)) rfl rfl (m_X1_place s1 hk) rfl rfl ?_
            refine RU.blk (C' := (92, [some (.ref 0), some (.int p0), some (.int p1)], [.int (v5 + p0)], s5)) 2 rfl ?_
            obtain ⟨rfl, rfl⟩ := ret_inj h
            exact RU.ret rfl rfl rfl
          · refine RU.ff hc ?_
            rcases cnd_some h with ⟨hc, h⟩ | ⟨hc, h⟩
            · refine RU.tt hc ?_
              refine RU.blk (C' := (102, [some (.ref 0), some (.int p0), some (.int p1)], [.ref 10, .int p0, .ref 10], s1)) 5 rfl ?_
              obtain ⟨⟨v6, s6⟩, hk, h⟩ := Option.bind_eq_some_iff.mp h
              dsimp only at h
              refine RU.call (as := [.ref 10]) (rest := [.int p0, .ref 10]) (u := some (.int v6)) (C' := (105, [some (.ref 0), some (.int p0), some (.int p1)], [.int v6, .int p0, .ref 10], s6)) rfl rfl (m_X1_place s1 hk) rfl rfl ?_
              refine RU.blk (C' := (107, [some (.ref 0), some (.int p0), some (.int p1)], [.int (v6 + p0), .int p0, .ref 10], s6)) 2 rfl ?_
              obtain ⟨⟨v7, s7⟩, hk, h⟩ := Option.bind_eq_some_iff.mp h
              dsimp only at h
              refine RU.call (as := [.ref 10, .int p0, .int (v6 + p0)]) (rest := []) (u := some (.int v7)) (C' := (110, [some (.ref 0), some (.int p0), some (.int p1)], [.int v7], s7)) rfl rfl (m_X1_toldOf p0 (v6 + p0) s6 hk) rfl rfl ?_
              obtain ⟨rfl, rfl⟩ := ret_inj h
              exact RU.ret rfl rfl rfl
            · refine RU.ff hc ?_
              refine RU.blk (C' := (113, [some (.ref 0), some (.int p0), some (.int p1)], [.int (-2)], s1)) 1 rfl ?_
              obtain ⟨rfl, rfl⟩ := ret_inj h
              exact RU.ret rfl rfl rfl
  · refine RU.ff hc ?_
    refine RU.blk (C' := (12, [some (.ref 0), some (.int p0), some (.int p1)], [.int (-1)], s1)) 1 rfl ?_
    obtain ⟨rfl, rfl⟩ := ret_inj h
    exact RU.ret rfl rfl rfl
noncomputable def F_X4_height (p0 : Int32) (σ : PS) : Option (Int32 × PS) :=
  (F_X1_isCell p0 σ).bind fun q1 =>
  let v1 := q1.1
  let s1 := q1.2
  bif cEq v1 0 then (
    some ((-1), s1)
  ) else (
    (F_X1_heightOf p0 s1).bind fun q2 =>
    let v2 := q2.1
    let s2 := q2.2
    some (v2, s2)
  )
set_option maxRecDepth 50000 in
theorem m_X4_height (p0 : Int32) (σ : PS) {v : Int32} {σ' : PS} (h : F_X4_height p0 σ = some (v, σ')) : PR 73 [.ref 0, .int p0] σ (some (.int v)) σ' := by
  refine PR.enter (L := [some (.ref 0), some (.int p0)]) uT_73 uD_73 rfl rfl ?_
  unfold F_X4_height at h
  refine RU.blk (C' := (5, [some (.ref 0), some (.int p0)], [.int p0, .ref 10], σ)) 3 rfl ?_
  obtain ⟨⟨v1, s1⟩, hk, h⟩ := Option.bind_eq_some_iff.mp h
  dsimp only at h
  refine RU.call (as := [.ref 10, .int p0]) (rest := []) (u := some (.int v1)) (C' := (8, [some (.ref 0), some (.int p0)], [.int v1], s1)) rfl rfl (m_X1_isCell p0 σ hk) rfl rfl ?_
  refine RU.blk (C' := (bif cEq v1 0 then 22 else 11, [some (.ref 0), some (.int p0)], [], s1)) 1 rfl ?_
  rcases cnd_some h with ⟨hc, h⟩ | ⟨hc, h⟩
  · refine RU.tt hc ?_
    refine RU.blk (C' := (23, [some (.ref 0), some (.int p0)], [.int (-1)], s1)) 1 rfl ?_
    obtain ⟨rfl, rfl⟩ := ret_inj h
    exact RU.ret rfl rfl rfl
  · refine RU.ff hc ?_
    refine RU.blk (C' := (16, [some (.ref 0), some (.int p0)], [.int p0, .ref 10], s1)) 3 rfl ?_
    obtain ⟨⟨v2, s2⟩, hk, h⟩ := Option.bind_eq_some_iff.mp h
    dsimp only at h
    refine RU.call (as := [.ref 10, .int p0]) (rest := []) (u := some (.int v2)) (C' := (19, [some (.ref 0), some (.int p0)], [.int v2], s2)) rfl rfl (m_X1_heightOf p0 s1 hk) rfl rfl ?_
    refine RU.blk (C' := (23, [some (.ref 0), some (.int p0)], [.int v2], s2)) 1 rfl ?_
    obtain ⟨rfl, rfl⟩ := ret_inj h
    exact RU.ret rfl rfl rfl
noncomputable def F_X4_isDigit (p0 : Int32) (σ : PS) : Option (Int32 × PS) :=
  (F_X4_within p0 (0) (9) σ).bind fun q1 =>
  let v1 := q1.1
  let s1 := q1.2
  bif okb v1 then some (v1, s1) else none
set_option maxRecDepth 50000 in
theorem m_X4_isDigit (p0 : Int32) (σ : PS) {v : Int32} {σ' : PS} (h : F_X4_isDigit p0 σ = some (v, σ')) : PR 117 [.int p0] σ (some (.int v)) σ' := by
  refine PR.enter (L := [some (.int p0)]) uT_117 uD_117 rfl rfl ?_
  unfold F_X4_isDigit at h
  refine RU.blk (C' := (4, [some (.int p0)], [.int (9), .int (0), .int p0], σ)) 3 rfl ?_
  obtain ⟨⟨v1, s1⟩, hk, h⟩ := Option.bind_eq_some_iff.mp h
  dsimp only at h
  refine RU.call (as := [.int p0, .int (0), .int (9)]) (rest := []) (u := some (.int v1)) (C' := (7, [some (.int p0)], [.int v1], s1)) rfl rfl (m_X4_within p0 (0) (9) σ hk) rfl rfl ?_
  obtain ⟨hb, h⟩ := cnd_n h
  obtain ⟨rfl, rfl⟩ := ret_inj h
  exact RU.ret rfl (pret_b hb) rfl
noncomputable def F_X4_heap (p0 : Int32) (p1 : Int32) (σ : PS) : Option (Int32 × PS) :=
  (F_X1_isCell p0 σ).bind fun q1 =>
  let v1 := q1.1
  let s1 := q1.2
  bif cNe v1 0 then (
    (F_X4_isDigit p1 s1).bind fun q2 =>
    let v2 := q2.1
    let s2 := q2.2
    bif cNe v2 0 then (
      (F_X1_heightOf p0 s2).bind fun q3 =>
      let v3 := q3.1
      let s3 := q3.2
      (F_X1_makeHeight p0 p1 s3).bind fun q4 =>
      let s4 := q4.2
      some (v3, s4)
    ) else (
      some ((-2), s2)
    )
  ) else (
    some ((-1), s1)
  )
set_option maxRecDepth 50000 in
theorem m_X4_heap (p0 : Int32) (p1 : Int32) (σ : PS) {v : Int32} {σ' : PS} (h : F_X4_heap p0 p1 σ = some (v, σ')) : PR 74 [.ref 0, .int p0, .int p1] σ (some (.int v)) σ' := by
  refine PR.enter (L := [some (.ref 0), some (.int p0), some (.int p1), none]) uT_74 uD_74 rfl rfl ?_
  unfold F_X4_heap at h
  refine RU.blk (C' := (5, [some (.ref 0), some (.int p0), some (.int p1), none], [.int p0, .ref 10], σ)) 3 rfl ?_
  obtain ⟨⟨v1, s1⟩, hk, h⟩ := Option.bind_eq_some_iff.mp h
  dsimp only at h
  refine RU.call (as := [.ref 10, .int p0]) (rest := []) (u := some (.int v1)) (C' := (8, [some (.ref 0), some (.int p0), some (.int p1), none], [.int v1], s1)) rfl rfl (m_X1_isCell p0 σ hk) rfl rfl ?_
  refine RU.blk (C' := (bif cNe v1 0 then 13 else 11, [some (.ref 0), some (.int p0), some (.int p1), none], [], s1)) 1 rfl ?_
  rcases cnd_some h with ⟨hc, h⟩ | ⟨hc, h⟩
  · refine RU.tt hc ?_
    refine RU.blk (C' := (14, [some (.ref 0), some (.int p0), some (.int p1), none], [.int p1], s1)) 1 rfl ?_
    obtain ⟨⟨v2, s2⟩, hk, h⟩ := Option.bind_eq_some_iff.mp h
    dsimp only at h
    refine RU.call (as := [.int p1]) (rest := []) (u := some (.int v2)) (C' := (17, [some (.ref 0), some (.int p0), some (.int p1), none], [.int v2], s2)) rfl rfl (m_X4_isDigit p1 s1 hk) rfl rfl ?_
    refine RU.blk (C' := (bif cNe v2 0 then 23 else 20, [some (.ref 0), some (.int p0), some (.int p1), none], [], s2)) 1 rfl ?_
    rcases cnd_some h with ⟨hc, h⟩ | ⟨hc, h⟩
    · refine RU.tt hc ?_
      refine RU.blk (C' := (28, [some (.ref 0), some (.int p0), some (.int p1), none], [.int p0, .ref 10], s2)) 3 rfl ?_
      obtain ⟨⟨v3, s3⟩, hk, h⟩ := Option.bind_eq_some_iff.mp h
      dsimp only at h
      refine RU.call (as := [.ref 10, .int p0]) (rest := []) (u := some (.int v3)) (C' := (31, [some (.ref 0), some (.int p0), some (.int p1), none], [.int v3], s3)) rfl rfl (m_X1_heightOf p0 s2 hk) rfl rfl ?_
      refine RU.blk (C' := (38, [some (.ref 0), some (.int p0), some (.int p1), some (.int v3)], [.int p1, .int p0, .ref 10], s3)) 5 rfl ?_
      obtain ⟨⟨v4, s4⟩, hk, h⟩ := Option.bind_eq_some_iff.mp h
      dsimp only at h
      refine RU.call (as := [.ref 10, .int p0, .int p1]) (rest := []) (u := none) (C' := (41, [some (.ref 0), some (.int p0), some (.int p1), some (.int v3)], [], s4)) rfl rfl (m_X1_makeHeight p0 p1 s3 hk) rfl rfl ?_
      refine RU.blk (C' := (42, [some (.ref 0), some (.int p0), some (.int p1), some (.int v3)], [.int v3], s4)) 1 rfl ?_
      obtain ⟨rfl, rfl⟩ := ret_inj h
      exact RU.ret rfl rfl rfl
    · refine RU.ff hc ?_
      refine RU.blk (C' := (22, [some (.ref 0), some (.int p0), some (.int p1), none], [.int (-2)], s2)) 1 rfl ?_
      obtain ⟨rfl, rfl⟩ := ret_inj h
      exact RU.ret rfl rfl rfl
  · refine RU.ff hc ?_
    refine RU.blk (C' := (12, [some (.ref 0), some (.int p0), some (.int p1), none], [.int (-1)], s1)) 1 rfl ?_
    obtain ⟨rfl, rfl⟩ := ret_inj h
    exact RU.ret rfl rfl rfl
noncomputable def F_X4_dim (p0 : Int32) (p1 : Int32) (σ : PS) : Option (Int32 × PS) :=
  (F_X1_isLooker p0 σ).bind fun q1 =>
  let v1 := q1.1
  let s1 := q1.2
  bif cNe v1 0 then (
    (F_X4_isDigit p1 s1).bind fun q2 =>
    let v2 := q2.1
    let s2 := q2.2
    bif cNe v2 0 then (
      (F_X1_shortOf p0 s2).bind fun q3 =>
      let v3 := q3.1
      let s3 := q3.2
      (F_X1_makeShort p0 p1 s3).bind fun q4 =>
      let s4 := q4.2
      some (v3, s4)
    ) else (
      some ((-2), s2)
    )
  ) else (
    some ((-1), s1)
  )
set_option maxRecDepth 50000 in
theorem m_X4_dim (p0 : Int32) (p1 : Int32) (σ : PS) {v : Int32} {σ' : PS} (h : F_X4_dim p0 p1 σ = some (v, σ')) : PR 75 [.ref 0, .int p0, .int p1] σ (some (.int v)) σ' := by
  refine PR.enter (L := [some (.ref 0), some (.int p0), some (.int p1), none]) uT_75 uD_75 rfl rfl ?_
  unfold F_X4_dim at h
  refine RU.blk (C' := (5, [some (.ref 0), some (.int p0), some (.int p1), none], [.int p0, .ref 10], σ)) 3 rfl ?_
  obtain ⟨⟨v1, s1⟩, hk, h⟩ := Option.bind_eq_some_iff.mp h
  dsimp only at h
  refine RU.call (as := [.ref 10, .int p0]) (rest := []) (u := some (.int v1)) (C' := (8, [some (.ref 0), some (.int p0), some (.int p1), none], [.int v1], s1)) rfl rfl (m_X1_isLooker p0 σ hk) rfl rfl ?_
  refine RU.blk (C' := (bif cNe v1 0 then 13 else 11, [some (.ref 0), some (.int p0), some (.int p1), none], [], s1)) 1 rfl ?_
  rcases cnd_some h with ⟨hc, h⟩ | ⟨hc, h⟩
  · refine RU.tt hc ?_
    refine RU.blk (C' := (14, [some (.ref 0), some (.int p0), some (.int p1), none], [.int p1], s1)) 1 rfl ?_
    obtain ⟨⟨v2, s2⟩, hk, h⟩ := Option.bind_eq_some_iff.mp h
    dsimp only at h
    refine RU.call (as := [.int p1]) (rest := []) (u := some (.int v2)) (C' := (17, [some (.ref 0), some (.int p0), some (.int p1), none], [.int v2], s2)) rfl rfl (m_X4_isDigit p1 s1 hk) rfl rfl ?_
    refine RU.blk (C' := (bif cNe v2 0 then 23 else 20, [some (.ref 0), some (.int p0), some (.int p1), none], [], s2)) 1 rfl ?_
    rcases cnd_some h with ⟨hc, h⟩ | ⟨hc, h⟩
    · refine RU.tt hc ?_
      refine RU.blk (C' := (28, [some (.ref 0), some (.int p0), some (.int p1), none], [.int p0, .ref 10], s2)) 3 rfl ?_
      obtain ⟨⟨v3, s3⟩, hk, h⟩ := Option.bind_eq_some_iff.mp h
      dsimp only at h
      refine RU.call (as := [.ref 10, .int p0]) (rest := []) (u := some (.int v3)) (C' := (31, [some (.ref 0), some (.int p0), some (.int p1), none], [.int v3], s3)) rfl rfl (m_X1_shortOf p0 s2 hk) rfl rfl ?_
      refine RU.blk (C' := (38, [some (.ref 0), some (.int p0), some (.int p1), some (.int v3)], [.int p1, .int p0, .ref 10], s3)) 5 rfl ?_
      obtain ⟨⟨v4, s4⟩, hk, h⟩ := Option.bind_eq_some_iff.mp h
      dsimp only at h
      refine RU.call (as := [.ref 10, .int p0, .int p1]) (rest := []) (u := none) (C' := (41, [some (.ref 0), some (.int p0), some (.int p1), some (.int v3)], [], s4)) rfl rfl (m_X1_makeShort p0 p1 s3 hk) rfl rfl ?_
      refine RU.blk (C' := (42, [some (.ref 0), some (.int p0), some (.int p1), some (.int v3)], [.int v3], s4)) 1 rfl ?_
      obtain ⟨rfl, rfl⟩ := ret_inj h
      exact RU.ret rfl rfl rfl
    · refine RU.ff hc ?_
      refine RU.blk (C' := (22, [some (.ref 0), some (.int p0), some (.int p1), none], [.int (-2)], s2)) 1 rfl ?_
      obtain ⟨rfl, rfl⟩ := ret_inj h
      exact RU.ret rfl rfl rfl
  · refine RU.ff hc ?_
    refine RU.blk (C' := (12, [some (.ref 0), some (.int p0), some (.int p1), none], [.int (-1)], s1)) 1 rfl ?_
    obtain ⟨rfl, rfl⟩ := ret_inj h
    exact RU.ret rfl rfl rfl
noncomputable def F_X4_scrape (p0 : Int32) (σ : PS) : Option (Int32 × PS) :=
  (F_X1_isLooker p0 σ).bind fun q1 =>
  let v1 := q1.1
  let s1 := q1.2
  bif cNe v1 0 then (
    (F_X1_isGone p0 s1).bind fun q2 =>
    let v2 := q2.1
    let s2 := q2.2
    bif cEq v2 0 then (
      (F_X1_takeOff p0 s2).bind fun q3 =>
      let s3 := q3.2
      (F_X1_lookersLeft s3).bind fun q4 =>
      let v4 := q4.1
      let s4 := q4.2
      some (v4, s4)
    ) else (
      some ((-3), s2)
    )
  ) else (
    some ((-1), s1)
  )
set_option maxRecDepth 50000 in
theorem m_X4_scrape (p0 : Int32) (σ : PS) {v : Int32} {σ' : PS} (h : F_X4_scrape p0 σ = some (v, σ')) : PR 76 [.ref 0, .int p0] σ (some (.int v)) σ' := by
  refine PR.enter (L := [some (.ref 0), some (.int p0)]) uT_76 uD_76 rfl rfl ?_
  unfold F_X4_scrape at h
  refine RU.blk (C' := (5, [some (.ref 0), some (.int p0)], [.int p0, .ref 10], σ)) 3 rfl ?_
  obtain ⟨⟨v1, s1⟩, hk, h⟩ := Option.bind_eq_some_iff.mp h
  dsimp only at h
  refine RU.call (as := [.ref 10, .int p0]) (rest := []) (u := some (.int v1)) (C' := (8, [some (.ref 0), some (.int p0)], [.int v1], s1)) rfl rfl (m_X1_isLooker p0 σ hk) rfl rfl ?_
  refine RU.blk (C' := (bif cNe v1 0 then 13 else 11, [some (.ref 0), some (.int p0)], [], s1)) 1 rfl ?_
  rcases cnd_some h with ⟨hc, h⟩ | ⟨hc, h⟩
  · refine RU.tt hc ?_
    refine RU.blk (C' := (18, [some (.ref 0), some (.int p0)], [.int p0, .ref 10], s1)) 3 rfl ?_
    obtain ⟨⟨v2, s2⟩, hk, h⟩ := Option.bind_eq_some_iff.mp h
    dsimp only at h
    refine RU.call (as := [.ref 10, .int p0]) (rest := []) (u := some (.int v2)) (C' := (21, [some (.ref 0), some (.int p0)], [.int v2], s2)) rfl rfl (m_X1_isGone p0 s1 hk) rfl rfl ?_
    refine RU.blk (C' := (bif cEq v2 0 then 27 else 24, [some (.ref 0), some (.int p0)], [], s2)) 1 rfl ?_
    rcases cnd_some h with ⟨hc, h⟩ | ⟨hc, h⟩
    · refine RU.tt hc ?_
      refine RU.blk (C' := (32, [some (.ref 0), some (.int p0)], [.int p0, .ref 10], s2)) 3 rfl ?_
      obtain ⟨⟨v3, s3⟩, hk, h⟩ := Option.bind_eq_some_iff.mp h
      dsimp only at h
      refine RU.call (as := [.ref 10, .int p0]) (rest := []) (u := none) (C' := (35, [some (.ref 0), some (.int p0)], [], s3)) rfl rfl (m_X1_takeOff p0 s2 hk) rfl rfl ?_
      refine RU.blk (C' := (39, [some (.ref 0), some (.int p0)], [.ref 10], s3)) 2 rfl ?_
      obtain ⟨⟨v4, s4⟩, hk, h⟩ := Option.bind_eq_some_iff.mp h
      dsimp only at h
      refine RU.call (as := [.ref 10]) (rest := []) (u := some (.int v4)) (C' := (42, [some (.ref 0), some (.int p0)], [.int v4], s4)) rfl rfl (m_X1_lookersLeft s3 hk) rfl rfl ?_
      obtain ⟨rfl, rfl⟩ := ret_inj h
      exact RU.ret rfl rfl rfl
    · refine RU.ff hc ?_
      refine RU.blk (C' := (26, [some (.ref 0), some (.int p0)], [.int (-3)], s2)) 1 rfl ?_
      obtain ⟨rfl, rfl⟩ := ret_inj h
      exact RU.ret rfl rfl rfl
  · refine RU.ff hc ?_
    refine RU.blk (C' := (12, [some (.ref 0), some (.int p0)], [.int (-1)], s1)) 1 rfl ?_
    obtain ⟨rfl, rfl⟩ := ret_inj h
    exact RU.ret rfl rfl rfl
noncomputable def F_X4_grow (p0 : Int32) (σ : PS) : Option (Int32 × PS) :=
  (F_X1_isLooker p0 σ).bind fun q1 =>
  let v1 := q1.1
  let s1 := q1.2
  bif cNe v1 0 then (
    (F_X1_isGone p0 s1).bind fun q2 =>
    let v2 := q2.1
    let s2 := q2.2
    bif cNe v2 0 then (
      (F_X1_bringBack p0 s2).bind fun q3 =>
      let s3 := q3.2
      (F_X1_lookersLeft s3).bind fun q4 =>
      let v4 := q4.1
      let s4 := q4.2
      some (v4, s4)
    ) else (
      some ((-3), s2)
    )
  ) else (
    some ((-1), s1)
  )
set_option maxRecDepth 50000 in
theorem m_X4_grow (p0 : Int32) (σ : PS) {v : Int32} {σ' : PS} (h : F_X4_grow p0 σ = some (v, σ')) : PR 77 [.ref 0, .int p0] σ (some (.int v)) σ' := by
  refine PR.enter (L := [some (.ref 0), some (.int p0)]) uT_77 uD_77 rfl rfl ?_
  unfold F_X4_grow at h
  refine RU.blk (C' := (5, [some (.ref 0), some (.int p0)], [.int p0, .ref 10], σ)) 3 rfl ?_
  obtain ⟨⟨v1, s1⟩, hk, h⟩ := Option.bind_eq_some_iff.mp h
  dsimp only at h
  refine RU.call (as := [.ref 10, .int p0]) (rest := []) (u := some (.int v1)) (C' := (8, [some (.ref 0), some (.int p0)], [.int v1], s1)) rfl rfl (m_X1_isLooker p0 σ hk) rfl rfl ?_
  refine RU.blk (C' := (bif cNe v1 0 then 13 else 11, [some (.ref 0), some (.int p0)], [], s1)) 1 rfl ?_
  rcases cnd_some h with ⟨hc, h⟩ | ⟨hc, h⟩
  · refine RU.tt hc ?_
    refine RU.blk (C' := (18, [some (.ref 0), some (.int p0)], [.int p0, .ref 10], s1)) 3 rfl ?_
    obtain ⟨⟨v2, s2⟩, hk, h⟩ := Option.bind_eq_some_iff.mp h
    dsimp only at h
    refine RU.call (as := [.ref 10, .int p0]) (rest := []) (u := some (.int v2)) (C' := (21, [some (.ref 0), some (.int p0)], [.int v2], s2)) rfl rfl (m_X1_isGone p0 s1 hk) rfl rfl ?_
    refine RU.blk (C' := (bif cNe v2 0 then 27 else 24, [some (.ref 0), some (.int p0)], [], s2)) 1 rfl ?_
    rcases cnd_some h with ⟨hc, h⟩ | ⟨hc, h⟩
    · refine RU.tt hc ?_
      refine RU.blk (C' := (32, [some (.ref 0), some (.int p0)], [.int p0, .ref 10], s2)) 3 rfl ?_
      obtain ⟨⟨v3, s3⟩, hk, h⟩ := Option.bind_eq_some_iff.mp h
      dsimp only at h
      refine RU.call (as := [.ref 10, .int p0]) (rest := []) (u := none) (C' := (35, [some (.ref 0), some (.int p0)], [], s3)) rfl rfl (m_X1_bringBack p0 s2 hk) rfl rfl ?_
      refine RU.blk (C' := (39, [some (.ref 0), some (.int p0)], [.ref 10], s3)) 2 rfl ?_
      obtain ⟨⟨v4, s4⟩, hk, h⟩ := Option.bind_eq_some_iff.mp h
      dsimp only at h
      refine RU.call (as := [.ref 10]) (rest := []) (u := some (.int v4)) (C' := (42, [some (.ref 0), some (.int p0)], [.int v4], s4)) rfl rfl (m_X1_lookersLeft s3 hk) rfl rfl ?_
      obtain ⟨rfl, rfl⟩ := ret_inj h
      exact RU.ret rfl rfl rfl
    · refine RU.ff hc ?_
      refine RU.blk (C' := (26, [some (.ref 0), some (.int p0)], [.int (-3)], s2)) 1 rfl ?_
      obtain ⟨rfl, rfl⟩ := ret_inj h
      exact RU.ret rfl rfl rfl
  · refine RU.ff hc ?_
    refine RU.blk (C' := (12, [some (.ref 0), some (.int p0)], [.int (-1)], s1)) 1 rfl ?_
    obtain ⟨rfl, rfl⟩ := ret_inj h
    exact RU.ret rfl rfl rfl
noncomputable def F_X4_seen  (σ : PS) : Option (Int64 × PS) :=
  (F_X1_exists σ).bind fun q1 =>
  let v1 := q1.1
  let s1 := q1.2
  bif cEq v1 0 then (
    some ((-9223372036854775808), s1)
  ) else (
    (F_X1_seenCells s1).bind fun q2 =>
    let v2 := q2.1
    let s2 := q2.2
    some (v2, s2)
  )
set_option maxRecDepth 50000 in
theorem m_X4_seen  (σ : PS) {v : Int64} {σ' : PS} (h : F_X4_seen σ = some (v, σ')) : PR 78 [.ref 0] σ (some (.long v)) σ' := by
  refine PR.enter (L := [some (.ref 0)]) uT_78 uD_78 rfl rfl ?_
  unfold F_X4_seen at h
  refine RU.blk (C' := (4, [some (.ref 0)], [.ref 10], σ)) 2 rfl ?_
  obtain ⟨⟨v1, s1⟩, hk, h⟩ := Option.bind_eq_some_iff.mp h
  dsimp only at h
  refine RU.call (as := [.ref 10]) (rest := []) (u := some (.int v1)) (C' := (7, [some (.ref 0)], [.int v1], s1)) rfl rfl (m_X1_exists σ hk) rfl rfl ?_
  refine RU.blk (C' := (bif cEq v1 0 then 20 else 10, [some (.ref 0)], [], s1)) 1 rfl ?_
  rcases cnd_some h with ⟨hc, h⟩ | ⟨hc, h⟩
  · refine RU.tt hc ?_
    refine RU.blk (C' := (23, [some (.ref 0)], [.long (-9223372036854775808)], s1)) 1 rfl ?_
    obtain ⟨rfl, rfl⟩ := ret_inj h
    exact RU.ret rfl rfl rfl
  · refine RU.ff hc ?_
    refine RU.blk (C' := (14, [some (.ref 0)], [.ref 10], s1)) 2 rfl ?_
    obtain ⟨⟨v2, s2⟩, hk, h⟩ := Option.bind_eq_some_iff.mp h
    dsimp only at h
    refine RU.call (as := [.ref 10]) (rest := []) (u := some (.long v2)) (C' := (17, [some (.ref 0)], [.long v2], s2)) rfl rfl (m_X1_seenCells s1 hk) rfl rfl ?_
    refine RU.blk (C' := (23, [some (.ref 0)], [.long v2], s2)) 1 rfl ?_
    obtain ⟨rfl, rfl⟩ := ret_inj h
    exact RU.ret rfl rfl rfl
noncomputable def F_X4_isStep (p0 : Int32) (σ : PS) : Option (Int32 × PS) :=
  (F_X4_within p0 (0) (3) σ).bind fun q1 =>
  let v1 := q1.1
  let s1 := q1.2
  bif okb v1 then some (v1, s1) else none
set_option maxRecDepth 50000 in
theorem m_X4_isStep (p0 : Int32) (σ : PS) {v : Int32} {σ' : PS} (h : F_X4_isStep p0 σ = some (v, σ')) : PR 116 [.int p0] σ (some (.int v)) σ' := by
  refine PR.enter (L := [some (.int p0)]) uT_116 uD_116 rfl rfl ?_
  unfold F_X4_isStep at h
  refine RU.blk (C' := (3, [some (.int p0)], [.int (3), .int (0), .int p0], σ)) 3 rfl ?_
  obtain ⟨⟨v1, s1⟩, hk, h⟩ := Option.bind_eq_some_iff.mp h
  dsimp only at h
  refine RU.call (as := [.int p0, .int (0), .int (3)]) (rest := []) (u := some (.int v1)) (C' := (6, [some (.int p0)], [.int v1], s1)) rfl rfl (m_X4_within p0 (0) (3) σ hk) rfl rfl ?_
  obtain ⟨hb, h⟩ := cnd_n h
  obtain ⟨rfl, rfl⟩ := ret_inj h
  exact RU.ret rfl (pret_b hb) rfl
noncomputable def F_X4_step (p0 : Int32) (σ : PS) : Option (Int32 × PS) :=
  (F_X4_isStep p0 σ).bind fun q1 =>
  let v1 := q1.1
  let s1 := q1.2
  bif cNe v1 0 then (
    (F_X1_exists s1).bind fun q2 =>
    let v2 := q2.1
    let s2 := q2.2
    bif cNe v2 0 then (
      (F_X1_place s2).bind fun q3 =>
      let v3 := q3.1
      let s3 := q3.2
      (F_X1_nextPlace v3 p0 s3).bind fun q4 =>
      let v4 := q4.1
      let s4 := q4.2
      bif cNe v4 (-9) then (
        (F_X1_seenCells s4).bind fun q5 =>
        let v5 := q5.1
        let s5 := q5.2
        (F_J13_bitCount_95d88 v5 s5).bind fun q6 =>
        let v6 := q6.1
        let s6 := q6.2
        (F_X1_moveTo v4 s6).bind fun q7 =>
        let s7 := q7.2
        (F_X1_seenCells s7).bind fun q8 =>
        let v8 := q8.1
        let s8 := q8.2
        (F_J13_bitCount_95d88 v8 s8).bind fun q9 =>
        let v9 := q9.1
        let s9 := q9.2
        some ((v9 - v6), s9)
      ) else (
        some ((-3), s4)
      )
    ) else (
      some ((-3), s2)
    )
  ) else (
    some ((-2), s1)
  )
set_option maxRecDepth 50000 in
theorem m_X4_step (p0 : Int32) (σ : PS) {v : Int32} {σ' : PS} (h : F_X4_step p0 σ = some (v, σ')) : PR 79 [.ref 0, .int p0] σ (some (.int v)) σ' := by
  refine PR.enter (L := [some (.ref 0), some (.int p0), none, none]) uT_79 uD_79 rfl rfl ?_
  unfold F_X4_step at h
  refine RU.blk (C' := (1, [some (.ref 0), some (.int p0), none, none], [.int p0], σ)) 1 rfl ?_
  obtain ⟨⟨v1, s1⟩, hk, h⟩ := Option.bind_eq_some_iff.mp h
  dsimp only at h
  refine RU.call (as := [.int p0]) (rest := []) (u := some (.int v1)) (C' := (4, [some (.ref 0), some (.int p0), none, none], [.int v1], s1)) rfl rfl (m_X4_isStep p0 σ hk) rfl rfl ?_
  refine RU.blk (C' := (bif cNe v1 0 then 10 else 7, [some (.ref 0), some (.int p0), none, none], [], s1)) 1 rfl ?_
  rcases cnd_some h with ⟨hc, h⟩ | ⟨hc, h⟩
  · refine RU.tt hc ?_
    refine RU.blk (C' := (14, [some (.ref 0), some (.int p0), none, none], [.ref 10], s1)) 2 rfl ?_
    obtain ⟨⟨v2, s2⟩, hk, h⟩ := Option.bind_eq_some_iff.mp h
    dsimp only at h
    refine RU.call (as := [.ref 10]) (rest := []) (u := some (.int v2)) (C' := (17, [some (.ref 0), some (.int p0), none, none], [.int v2], s2)) rfl rfl (m_X1_exists s1 hk) rfl rfl ?_
    refine RU.blk (C' := (bif cNe v2 0 then 23 else 20, [some (.ref 0), some (.int p0), none, none], [], s2)) 1 rfl ?_
    rcases cnd_some h with ⟨hc, h⟩ | ⟨hc, h⟩
    · refine RU.tt hc ?_
      refine RU.blk (C' := (31, [some (.ref 0), some (.int p0), none, none], [.ref 10, .ref 10], s2)) 4 rfl ?_
      obtain ⟨⟨v3, s3⟩, hk, h⟩ := Option.bind_eq_some_iff.mp h
      dsimp only at h
      refine RU.call (as := [.ref 10]) (rest := [.ref 10]) (u := some (.int v3)) (C' := (34, [some (.ref 0), some (.int p0), none, none], [.int v3, .ref 10], s3)) rfl rfl (m_X1_place s2 hk) rfl rfl ?_
      refine RU.blk (C' := (35, [some (.ref 0), some (.int p0), none, none], [.int p0, .int v3, .ref 10], s3)) 1 rfl ?_
      obtain ⟨⟨v4, s4⟩, hk, h⟩ := Option.bind_eq_some_iff.mp h
      dsimp only at h
      refine RU.call (as := [.ref 10, .int v3, .int p0]) (rest := []) (u := some (.int v4)) (C' := (38, [some (.ref 0), some (.int p0), none, none], [.int v4], s4)) rfl rfl (m_X1_nextPlace v3 p0 s3 hk) rfl rfl ?_
      refine RU.blk (C' := (bif cNe v4 (-9) then 48 else 45, [some (.ref 0), some (.int p0), some (.int v4), none], [], s4)) 4 rfl ?_
      rcases cnd_some h with ⟨hc, h⟩ | ⟨hc, h⟩
      · refine RU.tt hc ?_
        refine RU.blk (C' := (52, [some (.ref 0), some (.int p0), some (.int v4), none], [.ref 10], s4)) 2 rfl ?_
        obtain ⟨⟨v5, s5⟩, hk, h⟩ := Option.bind_eq_some_iff.mp h
        dsimp only at h
        refine RU.call (as := [.ref 10]) (rest := []) (u := some (.long v5)) (C' := (55, [some (.ref 0), some (.int p0), some (.int v4), none], [.long v5], s5)) rfl rfl (m_X1_seenCells s4 hk) rfl rfl ?_
        obtain ⟨⟨v6, s6⟩, hk, h⟩ := Option.bind_eq_some_iff.mp h
        dsimp only at h
        refine RU.call (as := [.long v5]) (rest := []) (u := some (.int v6)) (C' := (58, [some (.ref 0), some (.int p0), some (.int v4), none], [.int v6], s6)) rfl rfl (m_J13_bitCount_95d88 v5 s5 hk) rfl rfl ?_
        refine RU.blk (C' := (64, [some (.ref 0), some (.int p0), some (.int v4), some (.int v6)], [.int v4, .ref 10], s6)) 4 rfl ?_
        obtain ⟨⟨v7, s7⟩, hk, h⟩ := Option.bind_eq_some_iff.mp h
        dsimp only at h
        refine RU.call (as := [.ref 10, .int v4]) (rest := []) (u := none) (C' := (67, [some (.ref 0), some (.int p0), some (.int v4), some (.int v6)], [], s7)) rfl rfl (m_X1_moveTo v4 s6 hk) rfl rfl ?_
        refine RU.blk (C' := (71, [some (.ref 0), some (.int p0), some (.int v4), some (.int v6)], [.ref 10], s7)) 2 rfl ?_
        obtain ⟨⟨v8, s8⟩, hk, h⟩ := Option.bind_eq_some_iff.mp h
        dsimp only at h
        refine RU.call (as := [.ref 10]) (rest := []) (u := some (.long v8)) (C' := (74, [some (.ref 0), some (.int p0), some (.int v4), some (.int v6)], [.long v8], s8)) rfl rfl (m_X1_seenCells s7 hk) rfl rfl ?_
        obtain ⟨⟨v9, s9⟩, hk, h⟩ := Option.bind_eq_some_iff.mp h
        dsimp only at h
        refine RU.call (as := [.long v8]) (rest := []) (u := some (.int v9)) (C' := (77, [some (.ref 0), some (.int p0), some (.int v4), some (.int v6)], [.int v9], s9)) rfl rfl (m_J13_bitCount_95d88 v8 s8 hk) rfl rfl ?_
        refine RU.blk (C' := (79, [some (.ref 0), some (.int p0), some (.int v4), some (.int v6)], [.int (v9 - v6)], s9)) 2 rfl ?_
        obtain ⟨rfl, rfl⟩ := ret_inj h
        exact RU.ret rfl rfl rfl
      · refine RU.ff hc ?_
        refine RU.blk (C' := (47, [some (.ref 0), some (.int p0), some (.int v4), none], [.int (-3)], s4)) 1 rfl ?_
        obtain ⟨rfl, rfl⟩ := ret_inj h
        exact RU.ret rfl rfl rfl
    · refine RU.ff hc ?_
      refine RU.blk (C' := (22, [some (.ref 0), some (.int p0), none, none], [.int (-3)], s2)) 1 rfl ?_
      obtain ⟨rfl, rfl⟩ := ret_inj h
      exact RU.ret rfl rfl rfl
  · refine RU.ff hc ?_
    refine RU.blk (C' := (9, [some (.ref 0), some (.int p0), none, none], [.int (-2)], s1)) 1 rfl ?_
    obtain ⟨rfl, rfl⟩ := ret_inj h
    exact RU.ret rfl rfl rfl
noncomputable def L_X4_voyage  : Nat → Int32 → Int32 → Int32 → PS → Option (Int32 × PS)
  | 0, _, _, _, _ => none
  | n + 1, x4, x5, x8, σ => 
    bif cGe x8 x4 then (
      (F_X1_ofVoyage 18 60 x4 x5 σ).bind fun q1 =>
      let v1 := q1.1
      let s1 := q1.2
      some (v1, s1)
    ) else (
      (F_X4_numberAt 18 60 x8 σ).bind fun q2 =>
      let v2 := q2.1
      let s2 := q2.2
      (F_X4_isStep v2 s2).bind fun q3 =>
      let v3 := q3.1
      let s3 := q3.2
      bif cNe v3 0 then (
        L_X4_voyage n  x4 x5 (x8 + (1)) s3
      ) else (
        some ((-2), s3)
      )
    )
set_option maxRecDepth 50000 in
theorem ml_X4_voyage  (n : Nat) : (∀ (x4 : Int32) (x5 : Int32) (x8 : Int32) (u1 : Option Value) (u2 : Option Value) (u3 : Option Value) (u6 : Option Value) (u7 : Option Value) (σ : PS) (v : Int32) (σ' : PS), L_X4_voyage n x4 x5 x8 σ = some (v, σ') → RU ubX4_voyage 5 118 (90, [some (.ref 0), u1, u2, u3, some (.int x4), some (.int x5), u6, u7, some (.int x8)], [], σ) (some (.int v)) σ') := by
  induction n with
  | zero =>
    intro x4 x5 x8 u1 u2 u3 u6 u7 σ v σ' h; exact absurd (show (none : Option (Int32 × PS)) = some (v, σ') from h) (by simp)
  | succ n ih =>
    intro x4 x5 x8 u1 u2 u3 u6 u7 σ v σ' h
    rw [L_X4_voyage] at h
    refine RU.blk (C' := (bif cGe x8 x4 then 121 else 97, [some (.ref 0), none, none, none, some (.int x4), some (.int x5), none, none, some (.int x8)], [], σ)) 3 rfl ?_
    rcases cnd_some h with ⟨hc, h⟩ | ⟨hc, h⟩
    · refine RU.tt hc ?_
      refine RU.blk (C' := (133, [some (.ref 0), none, none, none, some (.int x4), some (.int x5), none, none, some (.int x8)], [.int x5, .int x4, .ref 18, .ref 10], σ)) 6 rfl ?_
      obtain ⟨⟨v1, s1⟩, hk, h⟩ := Option.bind_eq_some_iff.mp h
      dsimp only at h
      refine RU.call (as := [.ref 10, .ref 18, .int x4, .int x5]) (rest := []) (u := some (.int v1)) (C' := (136, [some (.ref 0), none, none, none, some (.int x4), some (.int x5), none, none, some (.int x8)], [.int v1], s1)) rfl rfl (m_X1_ofVoyage 18 60 rfl x4 x5 σ hk) rfl rfl ?_
      obtain ⟨rfl, rfl⟩ := ret_inj h
      exact RU.ret rfl rfl rfl
    · refine RU.ff hc ?_
      refine RU.blk (C' := (103, [some (.ref 0), none, none, none, some (.int x4), some (.int x5), none, none, some (.int x8)], [.int x8, .ref 18], σ)) 3 rfl ?_
      obtain ⟨⟨v2, s2⟩, hk, h⟩ := Option.bind_eq_some_iff.mp h
      dsimp only at h
      refine RU.call (as := [.ref 18, .int x8]) (rest := []) (u := some (.int v2)) (C' := (106, [some (.ref 0), none, none, none, some (.int x4), some (.int x5), none, none, some (.int x8)], [.int v2], s2)) rfl rfl (m_X4_numberAt 18 60 rfl x8 σ hk) rfl rfl ?_
      obtain ⟨⟨v3, s3⟩, hk, h⟩ := Option.bind_eq_some_iff.mp h
      dsimp only at h
      refine RU.call (as := [.int v2]) (rest := []) (u := some (.int v3)) (C' := (109, [some (.ref 0), none, none, none, some (.int x4), some (.int x5), none, none, some (.int x8)], [.int v3], s3)) rfl rfl (m_X4_isStep v2 s2 hk) rfl rfl ?_
      refine RU.blk (C' := (bif cNe v3 0 then 115 else 112, [some (.ref 0), none, none, none, some (.int x4), some (.int x5), none, none, some (.int x8)], [], s3)) 1 rfl ?_
      rcases cnd_some h with ⟨hc, h⟩ | ⟨hc, h⟩
      · refine RU.tt hc ?_
        refine RU.blk (C' := (90, [some (.ref 0), none, none, none, some (.int x4), some (.int x5), none, none, some (.int (x8 + (1)))], [], s3)) 2 rfl ?_
        exact ih x4 x5 (x8 + (1)) none none none none none _ _ _ h
      · refine RU.ff hc ?_
        refine RU.blk (C' := (114, [some (.ref 0), none, none, none, some (.int x4), some (.int x5), none, none, some (.int x8)], [.int (-2)], s3)) 1 rfl ?_
        obtain ⟨rfl, rfl⟩ := ret_inj h
        exact RU.ret rfl rfl rfl
noncomputable def F_X4_voyage (p0 : Int32) (p1 : Int32) (p2 : Int32) (p3 : Int32) (p4 : Int32) (σ : PS) : Option (Int32 × PS) :=
  (F_X4_sheetOf p0 (sI σ 5 (0))).bind fun q4 =>
  let s4 := q4.2
  match q4.1 with
  | none => (
    some ((-1), s4)
  )
  | some r54 => bif isSh r54 then (
    (F_X4_isLane p1 s4).bind fun q5 =>
    let v5 := q5.1
    let s5 := q5.2
    bif cEq v5 0 then (
      some ((-2), s5)
    ) else (
      (F_X4_within p3 (0) (40) s5).bind fun q6 =>
      let v6 := q6.1
      let s6 := q6.2
      bif cEq v6 0 then (
        some ((-2), s6)
      ) else (
        (F_X4_within p4 (0) (4) s6).bind fun q7 =>
        let v7 := q7.1
        let s7 := q7.2
        bif cNe v7 0 then (
          (F_X1_exists s7).bind fun q8 =>
          let v8 := q8.1
          let s8 := q8.2
          bif cNe v8 0 then (
            (F_X4_take r54 p1 p2 p3 s8).bind fun q9 =>
            let v9 := q9.1
            let s9 := q9.2
            bif cEq v9 0 then (
              L_X4_voyage fuelN  p3 p4 (0) s9
            ) else (
              (F_X4_faulted v9 s9).bind fun q10 =>
              let v10 := q10.1
              let s10 := q10.2
              some (v10, s10)
            )
          ) else (
            some ((-3), s8)
          )
        ) else (
          some ((-2), s7)
        )
      )
    )
  ) else none
set_option maxRecDepth 50000 in
theorem m_X4_voyage (p0 : Int32) (p1 : Int32) (p2 : Int32) (p3 : Int32) (p4 : Int32) (σ : PS) {v : Int32} {σ' : PS} (h : F_X4_voyage p0 p1 p2 p3 p4 σ = some (v, σ')) : PR 80 [.ref 0, .int p0, .int p1, .int p2, .int p3, .int p4] σ (some (.int v)) σ' := by
  refine PR.enter (L := [some (.ref 0), some (.int p0), some (.int p1), some (.int p2), some (.int p3), some (.int p4), none, none, none]) uT_80 uD_80 rfl rfl ?_
  unfold F_X4_voyage at h
  refine RU.blk (C' := (7, [some (.ref 0), some (.int p0), some (.int p1), some (.int p2), some (.int p3), some (.int p4), none, none, none], [.int p0, .ref 0], (sI σ 5 (0)))) 5 rfl ?_
  obtain ⟨⟨v4, s4⟩, hk, h⟩ := Option.bind_eq_some_iff.mp h
  dsimp only at h
  cases v4 with
  | none =>
    dsimp only at h
    refine RU.call (as := [.ref 0, .int p0]) (rest := []) (u := some .null) (C' := (10, [some (.ref 0), some (.int p0), some (.int p1), some (.int p2), some (.int p3), some (.int p4), none, none, none], [.null], s4)) rfl rfl (m_X4_sheetOf p0 (sI σ 5 (0)) hk) rfl rfl ?_
    refine RU.blk (C' := (18, [some (.ref 0), some (.int p0), some (.int p1), some (.int p2), some (.int p3), some (.int p4), some (.null), none, none], [.int (-1)], s4)) 4 rfl ?_
    obtain ⟨rfl, rfl⟩ := ret_inj h
    exact RU.ret rfl rfl rfl
  | some r54 =>
    dsimp only at h
    obtain ⟨hr54, h⟩ := cnd_n h
    refine RU.call (as := [.ref 0, .int p0]) (rest := []) (u := some (.ref r54)) (C' := (10, [some (.ref 0), some (.int p0), some (.int p1), some (.int p2), some (.int p3), some (.int p4), none, none, none], [.ref r54], s4)) rfl rfl (m_X4_sheetOf p0 (sI σ 5 (0)) hk) rfl rfl ?_
    refine RU.blk (C' := (20, [some (.ref 0), some (.int p0), some (.int p1), some (.int p2), some (.int p3), some (.int p4), some (.ref r54), none, none], [.int p1], s4)) 4 rfl ?_
    obtain ⟨⟨v5, s5⟩, hk, h⟩ := Option.bind_eq_some_iff.mp h
    dsimp only at h
    refine RU.call (as := [.int p1]) (rest := []) (u := some (.int v5)) (C' := (23, [some (.ref 0), some (.int p0), some (.int p1), some (.int p2), some (.int p3), some (.int p4), some (.ref r54), none, none], [.int v5], s5)) rfl rfl (m_X4_isLane p1 s4 hk) rfl rfl ?_
    refine RU.blk (C' := (bif cEq v5 0 then 47 else 26, [some (.ref 0), some (.int p0), some (.int p1), some (.int p2), some (.int p3), some (.int p4), some (.ref r54), none, none], [], s5)) 1 rfl ?_
    rcases cnd_some h with ⟨hc, h⟩ | ⟨hc, h⟩
    · refine RU.tt hc ?_
      refine RU.blk (C' := (49, [some (.ref 0), some (.int p0), some (.int p1), some (.int p2), some (.int p3), some (.int p4), some (.ref r54), none, none], [.int (-2)], s5)) 1 rfl ?_
      obtain ⟨rfl, rfl⟩ := ret_inj h
      exact RU.ret rfl rfl rfl
    · refine RU.ff hc ?_
      refine RU.blk (C' := (31, [some (.ref 0), some (.int p0), some (.int p1), some (.int p2), some (.int p3), some (.int p4), some (.ref r54), none, none], [.int (40), .int (0), .int p3], s5)) 3 rfl ?_
      obtain ⟨⟨v6, s6⟩, hk, h⟩ := Option.bind_eq_some_iff.mp h
      dsimp only at h
      refine RU.call (as := [.int p3, .int (0), .int (40)]) (rest := []) (u := some (.int v6)) (C' := (34, [some (.ref 0), some (.int p0), some (.int p1), some (.int p2), some (.int p3), some (.int p4), some (.ref r54), none, none], [.int v6], s6)) rfl rfl (m_X4_within p3 (0) (40) s5 hk) rfl rfl ?_
      refine RU.blk (C' := (bif cEq v6 0 then 47 else 37, [some (.ref 0), some (.int p0), some (.int p1), some (.int p2), some (.int p3), some (.int p4), some (.ref r54), none, none], [], s6)) 1 rfl ?_
      rcases cnd_some h with ⟨hc, h⟩ | ⟨hc, h⟩
      · refine RU.tt hc ?_
        refine RU.blk (C' := (49, [some (.ref 0), some (.int p0), some (.int p1), some (.int p2), some (.int p3), some (.int p4), some (.ref r54), none, none], [.int (-2)], s6)) 1 rfl ?_
        obtain ⟨rfl, rfl⟩ := ret_inj h
        exact RU.ret rfl rfl rfl
      · refine RU.ff hc ?_
        refine RU.blk (C' := (41, [some (.ref 0), some (.int p0), some (.int p1), some (.int p2), some (.int p3), some (.int p4), some (.ref r54), none, none], [.int (4), .int (0), .int p4], s6)) 3 rfl ?_
        obtain ⟨⟨v7, s7⟩, hk, h⟩ := Option.bind_eq_some_iff.mp h
        dsimp only at h
        refine RU.call (as := [.int p4, .int (0), .int (4)]) (rest := []) (u := some (.int v7)) (C' := (44, [some (.ref 0), some (.int p0), some (.int p1), some (.int p2), some (.int p3), some (.int p4), some (.ref r54), none, none], [.int v7], s7)) rfl rfl (m_X4_within p4 (0) (4) s6 hk) rfl rfl ?_
        refine RU.blk (C' := (bif cNe v7 0 then 50 else 47, [some (.ref 0), some (.int p0), some (.int p1), some (.int p2), some (.int p3), some (.int p4), some (.ref r54), none, none], [], s7)) 1 rfl ?_
        rcases cnd_some h with ⟨hc, h⟩ | ⟨hc, h⟩
        · refine RU.tt hc ?_
          refine RU.blk (C' := (54, [some (.ref 0), some (.int p0), some (.int p1), some (.int p2), some (.int p3), some (.int p4), some (.ref r54), none, none], [.ref 10], s7)) 2 rfl ?_
          obtain ⟨⟨v8, s8⟩, hk, h⟩ := Option.bind_eq_some_iff.mp h
          dsimp only at h
          refine RU.call (as := [.ref 10]) (rest := []) (u := some (.int v8)) (C' := (57, [some (.ref 0), some (.int p0), some (.int p1), some (.int p2), some (.int p3), some (.int p4), some (.ref r54), none, none], [.int v8], s8)) rfl rfl (m_X1_exists s7 hk) rfl rfl ?_
          refine RU.blk (C' := (bif cNe v8 0 then 63 else 60, [some (.ref 0), some (.int p0), some (.int p1), some (.int p2), some (.int p3), some (.int p4), some (.ref r54), none, none], [], s8)) 1 rfl ?_
          rcases cnd_some h with ⟨hc, h⟩ | ⟨hc, h⟩
          · refine RU.tt hc ?_
            refine RU.blk (C' := (70, [some (.ref 0), some (.int p0), some (.int p1), some (.int p2), some (.int p3), some (.int p4), some (.ref r54), none, none], [.int p3, .int p2, .int p1, .ref r54, .ref 0], s8)) 5 rfl ?_
            obtain ⟨⟨v9, s9⟩, hk, h⟩ := Option.bind_eq_some_iff.mp h
            dsimp only at h
            refine RU.call (as := [.ref 0, .ref r54, .int p1, .int p2, .int p3]) (rest := []) (u := some (.int v9)) (C' := (73, [some (.ref 0), some (.int p0), some (.int p1), some (.int p2), some (.int p3), some (.int p4), some (.ref r54), none, none], [.int v9], s9)) rfl rfl (m_X4_take r54 hr54 p1 p2 p3 s8 hk) rfl rfl ?_
            refine RU.blk (C' := (bif cEq v9 0 then 87 else 80, [some (.ref 0), some (.int p0), some (.int p1), some (.int p2), some (.int p3), some (.int p4), some (.ref r54), some (.int v9), none], [], s9)) 3 rfl ?_
            rcases cnd_some h with ⟨hc, h⟩ | ⟨hc, h⟩
            · refine RU.tt hc ?_
              refine RU.blk (C' := (90, [some (.ref 0), some (.int p0), some (.int p1), some (.int p2), some (.int p3), some (.int p4), some (.ref r54), some (.int v9), some (.int (0))], [], s9)) 2 rfl ?_
              exact (ml_X4_voyage fuelN) p3 p4 (0) (some (.int p0)) (some (.int p1)) (some (.int p2)) (some (.ref r54)) (some (.int v9)) _ _ _ h
            · refine RU.ff hc ?_
              refine RU.blk (C' := (83, [some (.ref 0), some (.int p0), some (.int p1), some (.int p2), some (.int p3), some (.int p4), some (.ref r54), some (.int v9), none], [.int v9, .ref 0], s9)) 2 rfl ?_
              obtain ⟨⟨v10, s10⟩, hk, h⟩ := Option.bind_eq_some_iff.mp h
              dsimp only at h
              refine RU.call (as := [.ref 0, .int v9]) (rest := []) (u := some (.int v10)) (C' := (86, [some (.ref 0), some (.int p0), some (.int p1), some (.int p2), some (.int p3), some (.int p4), some (.ref r54), some (.int v9), none], [.int v10], s10)) rfl rfl (m_X4_faulted v9 s9 hk) rfl rfl ?_
              obtain ⟨rfl, rfl⟩ := ret_inj h
              exact RU.ret rfl rfl rfl
          · refine RU.ff hc ?_
            refine RU.blk (C' := (62, [some (.ref 0), some (.int p0), some (.int p1), some (.int p2), some (.int p3), some (.int p4), some (.ref r54), none, none], [.int (-3)], s8)) 1 rfl ?_
            obtain ⟨rfl, rfl⟩ := ret_inj h
            exact RU.ret rfl rfl rfl
        · refine RU.ff hc ?_
          refine RU.blk (C' := (49, [some (.ref 0), some (.int p0), some (.int p1), some (.int p2), some (.int p3), some (.int p4), some (.ref r54), none, none], [.int (-2)], s7)) 1 rfl ?_
          obtain ⟨rfl, rfl⟩ := ret_inj h
          exact RU.ret rfl rfl rfl
noncomputable def F_X4_way (p0 : Int32) (p1 : Int32) (σ : PS) : Option (Int32 × PS) :=
  (F_X1_isCell p0 σ).bind fun q1 =>
  let v1 := q1.1
  let s1 := q1.2
  bif cNe v1 0 then (
    (F_X4_within p1 (-1) (9) s1).bind fun q2 =>
    let v2 := q2.1
    let s2 := q2.2
    bif cNe v2 0 then (
      (F_X1_ofWay p0 p1 s2).bind fun q3 =>
      let v3 := q3.1
      let s3 := q3.2
      some (v3, s3)
    ) else (
      some ((-2), s2)
    )
  ) else (
    some ((-1), s1)
  )
set_option maxRecDepth 50000 in
theorem m_X4_way (p0 : Int32) (p1 : Int32) (σ : PS) {v : Int32} {σ' : PS} (h : F_X4_way p0 p1 σ = some (v, σ')) : PR 81 [.ref 0, .int p0, .int p1] σ (some (.int v)) σ' := by
  refine PR.enter (L := [some (.ref 0), some (.int p0), some (.int p1)]) uT_81 uD_81 rfl rfl ?_
  unfold F_X4_way at h
  refine RU.blk (C' := (5, [some (.ref 0), some (.int p0), some (.int p1)], [.int p0, .ref 10], σ)) 3 rfl ?_
  obtain ⟨⟨v1, s1⟩, hk, h⟩ := Option.bind_eq_some_iff.mp h
  dsimp only at h
  refine RU.call (as := [.ref 10, .int p0]) (rest := []) (u := some (.int v1)) (C' := (8, [some (.ref 0), some (.int p0), some (.int p1)], [.int v1], s1)) rfl rfl (m_X1_isCell p0 σ hk) rfl rfl ?_
  refine RU.blk (C' := (bif cNe v1 0 then 13 else 11, [some (.ref 0), some (.int p0), some (.int p1)], [], s1)) 1 rfl ?_
  rcases cnd_some h with ⟨hc, h⟩ | ⟨hc, h⟩
  · refine RU.tt hc ?_
    refine RU.blk (C' := (17, [some (.ref 0), some (.int p0), some (.int p1)], [.int (9), .int (-1), .int p1], s1)) 3 rfl ?_
    obtain ⟨⟨v2, s2⟩, hk, h⟩ := Option.bind_eq_some_iff.mp h
    dsimp only at h
    refine RU.call (as := [.int p1, .int (-1), .int (9)]) (rest := []) (u := some (.int v2)) (C' := (20, [some (.ref 0), some (.int p0), some (.int p1)], [.int v2], s2)) rfl rfl (m_X4_within p1 (-1) (9) s1 hk) rfl rfl ?_
    refine RU.blk (C' := (bif cNe v2 0 then 26 else 23, [some (.ref 0), some (.int p0), some (.int p1)], [], s2)) 1 rfl ?_
    rcases cnd_some h with ⟨hc, h⟩ | ⟨hc, h⟩
    · refine RU.tt hc ?_
      refine RU.blk (C' := (32, [some (.ref 0), some (.int p0), some (.int p1)], [.int p1, .int p0, .ref 10], s2)) 4 rfl ?_
      obtain ⟨⟨v3, s3⟩, hk, h⟩ := Option.bind_eq_some_iff.mp h
      dsimp only at h
      refine RU.call (as := [.ref 10, .int p0, .int p1]) (rest := []) (u := some (.int v3)) (C' := (35, [some (.ref 0), some (.int p0), some (.int p1)], [.int v3], s3)) rfl rfl (m_X1_ofWay p0 p1 s2 hk) rfl rfl ?_
      obtain ⟨rfl, rfl⟩ := ret_inj h
      exact RU.ret rfl rfl rfl
    · refine RU.ff hc ?_
      refine RU.blk (C' := (25, [some (.ref 0), some (.int p0), some (.int p1)], [.int (-2)], s2)) 1 rfl ?_
      obtain ⟨rfl, rfl⟩ := ret_inj h
      exact RU.ret rfl rfl rfl
  · refine RU.ff hc ?_
    refine RU.blk (C' := (12, [some (.ref 0), some (.int p0), some (.int p1)], [.int (-1)], s1)) 1 rfl ?_
    obtain ⟨rfl, rfl⟩ := ret_inj h
    exact RU.ret rfl rfl rfl
noncomputable def F_X4_most (p0 : Int32) (p1 : Int32) (σ : PS) : Option (Int32 × PS) :=
  (F_X4_within p0 (1) (5) σ).bind fun q1 =>
  let v1 := q1.1
  let s1 := q1.2
  bif cEq v1 0 then (
    some ((-2), s1)
  ) else (
    (F_X4_within p1 (-1) (4) s1).bind fun q2 =>
    let v2 := q2.1
    let s2 := q2.2
    bif cNe v2 0 then (
      (F_X1_exists s2).bind fun q3 =>
      let v3 := q3.1
      let s3 := q3.2
      bif cNe v3 0 then (
        (F_X1_ofMost p0 p1 s3).bind fun q4 =>
        let v4 := q4.1
        let s4 := q4.2
        some (v4, s4)
      ) else (
        some ((-3), s3)
      )
    ) else (
      some ((-2), s2)
    )
  )
set_option maxRecDepth 50000 in
theorem m_X4_most (p0 : Int32) (p1 : Int32) (σ : PS) {v : Int32} {σ' : PS} (h : F_X4_most p0 p1 σ = some (v, σ')) : PR 82 [.ref 0, .int p0, .int p1] σ (some (.int v)) σ' := by
  refine PR.enter (L := [some (.ref 0), some (.int p0), some (.int p1)]) uT_82 uD_82 rfl rfl ?_
  unfold F_X4_most at h
  refine RU.blk (C' := (3, [some (.ref 0), some (.int p0), some (.int p1)], [.int (5), .int (1), .int p0], σ)) 3 rfl ?_
  obtain ⟨⟨v1, s1⟩, hk, h⟩ := Option.bind_eq_some_iff.mp h
  dsimp only at h
  refine RU.call (as := [.int p0, .int (1), .int (5)]) (rest := []) (u := some (.int v1)) (C' := (6, [some (.ref 0), some (.int p0), some (.int p1)], [.int v1], s1)) rfl rfl (m_X4_within p0 (1) (5) σ hk) rfl rfl ?_
  refine RU.blk (C' := (bif cEq v1 0 then 18 else 9, [some (.ref 0), some (.int p0), some (.int p1)], [], s1)) 1 rfl ?_
  rcases cnd_some h with ⟨hc, h⟩ | ⟨hc, h⟩
  · refine RU.tt hc ?_
    refine RU.blk (C' := (20, [some (.ref 0), some (.int p0), some (.int p1)], [.int (-2)], s1)) 1 rfl ?_
    obtain ⟨rfl, rfl⟩ := ret_inj h
    exact RU.ret rfl rfl rfl
  · refine RU.ff hc ?_
    refine RU.blk (C' := (12, [some (.ref 0), some (.int p0), some (.int p1)], [.int (4), .int (-1), .int p1], s1)) 3 rfl ?_
    obtain ⟨⟨v2, s2⟩, hk, h⟩ := Option.bind_eq_some_iff.mp h
    dsimp only at h
    refine RU.call (as := [.int p1, .int (-1), .int (4)]) (rest := []) (u := some (.int v2)) (C' := (15, [some (.ref 0), some (.int p0), some (.int p1)], [.int v2], s2)) rfl rfl (m_X4_within p1 (-1) (4) s1 hk) rfl rfl ?_
    refine RU.blk (C' := (bif cNe v2 0 then 21 else 18, [some (.ref 0), some (.int p0), some (.int p1)], [], s2)) 1 rfl ?_
    rcases cnd_some h with ⟨hc, h⟩ | ⟨hc, h⟩
    · refine RU.tt hc ?_
      refine RU.blk (C' := (25, [some (.ref 0), some (.int p0), some (.int p1)], [.ref 10], s2)) 2 rfl ?_
      obtain ⟨⟨v3, s3⟩, hk, h⟩ := Option.bind_eq_some_iff.mp h
      dsimp only at h
      refine RU.call (as := [.ref 10]) (rest := []) (u := some (.int v3)) (C' := (28, [some (.ref 0), some (.int p0), some (.int p1)], [.int v3], s3)) rfl rfl (m_X1_exists s2 hk) rfl rfl ?_
      refine RU.blk (C' := (bif cNe v3 0 then 34 else 31, [some (.ref 0), some (.int p0), some (.int p1)], [], s3)) 1 rfl ?_
      rcases cnd_some h with ⟨hc, h⟩ | ⟨hc, h⟩
      · refine RU.tt hc ?_
        refine RU.blk (C' := (40, [some (.ref 0), some (.int p0), some (.int p1)], [.int p1, .int p0, .ref 10], s3)) 4 rfl ?_
        obtain ⟨⟨v4, s4⟩, hk, h⟩ := Option.bind_eq_some_iff.mp h
        dsimp only at h
        refine RU.call (as := [.ref 10, .int p0, .int p1]) (rest := []) (u := some (.int v4)) (C' := (43, [some (.ref 0), some (.int p0), some (.int p1)], [.int v4], s4)) rfl rfl (m_X1_ofMost p0 p1 s3 hk) rfl rfl ?_
        obtain ⟨rfl, rfl⟩ := ret_inj h
        exact RU.ret rfl rfl rfl
      · refine RU.ff hc ?_
        refine RU.blk (C' := (33, [some (.ref 0), some (.int p0), some (.int p1)], [.int (-3)], s3)) 1 rfl ?_
        obtain ⟨rfl, rfl⟩ := ret_inj h
        exact RU.ret rfl rfl rfl
    · refine RU.ff hc ?_
      refine RU.blk (C' := (20, [some (.ref 0), some (.int p0), some (.int p1)], [.int (-2)], s2)) 1 rfl ?_
      obtain ⟨rfl, rfl⟩ := ret_inj h
      exact RU.ret rfl rfl rfl
noncomputable def F_X4_flat (p0 : Int32) (σ : PS) : Option (Int32 × PS) :=
  (F_X1_isCell p0 σ).bind fun q1 =>
  let v1 := q1.1
  let s1 := q1.2
  bif cEq v1 0 then (
    some ((-1), s1)
  ) else (
    (F_X1_flatWith p0 s1).bind fun q2 =>
    let v2 := q2.1
    let s2 := q2.2
    (F_J13_bitCount_95d88 v2 s2).bind fun q3 =>
    let v3 := q3.1
    let s3 := q3.2
    some (v3, s3)
  )
set_option maxRecDepth 50000 in
theorem m_X4_flat (p0 : Int32) (σ : PS) {v : Int32} {σ' : PS} (h : F_X4_flat p0 σ = some (v, σ')) : PR 83 [.ref 0, .int p0] σ (some (.int v)) σ' := by
  refine PR.enter (L := [some (.ref 0), some (.int p0)]) uT_83 uD_83 rfl rfl ?_
  unfold F_X4_flat at h
  refine RU.blk (C' := (5, [some (.ref 0), some (.int p0)], [.int p0, .ref 10], σ)) 3 rfl ?_
  obtain ⟨⟨v1, s1⟩, hk, h⟩ := Option.bind_eq_some_iff.mp h
  dsimp only at h
  refine RU.call (as := [.ref 10, .int p0]) (rest := []) (u := some (.int v1)) (C' := (8, [some (.ref 0), some (.int p0)], [.int v1], s1)) rfl rfl (m_X1_isCell p0 σ hk) rfl rfl ?_
  refine RU.blk (C' := (bif cEq v1 0 then 25 else 11, [some (.ref 0), some (.int p0)], [], s1)) 1 rfl ?_
  rcases cnd_some h with ⟨hc, h⟩ | ⟨hc, h⟩
  · refine RU.tt hc ?_
    refine RU.blk (C' := (26, [some (.ref 0), some (.int p0)], [.int (-1)], s1)) 1 rfl ?_
    obtain ⟨rfl, rfl⟩ := ret_inj h
    exact RU.ret rfl rfl rfl
  · refine RU.ff hc ?_
    refine RU.blk (C' := (16, [some (.ref 0), some (.int p0)], [.int p0, .ref 10], s1)) 3 rfl ?_
    obtain ⟨⟨v2, s2⟩, hk, h⟩ := Option.bind_eq_some_iff.mp h
    dsimp only at h
    refine RU.call (as := [.ref 10, .int p0]) (rest := []) (u := some (.long v2)) (C' := (19, [some (.ref 0), some (.int p0)], [.long v2], s2)) rfl rfl (m_X1_flatWith p0 s1 hk) rfl rfl ?_
    obtain ⟨⟨v3, s3⟩, hk, h⟩ := Option.bind_eq_some_iff.mp h
    dsimp only at h
    refine RU.call (as := [.long v2]) (rest := []) (u := some (.int v3)) (C' := (22, [some (.ref 0), some (.int p0)], [.int v3], s3)) rfl rfl (m_J13_bitCount_95d88 v2 s2 hk) rfl rfl ?_
    refine RU.blk (C' := (26, [some (.ref 0), some (.int p0)], [.int v3], s3)) 1 rfl ?_
    obtain ⟨rfl, rfl⟩ := ret_inj h
    exact RU.ret rfl rfl rfl
noncomputable def F_X4_begun (p0 : Int32) (p1 : Int32) (p2 : Int32) (p3 : Int32) (p4 : Int32) (p5 : Int32) (σ : PS) : Option (Int32 × PS) :=
  (F_X4_sheetOf p0 (sI σ 5 (0))).bind fun q1 =>
  let s1 := q1.2
  match q1.1 with
  | none => (
    some ((-1), s1)
  )
  | some r51 => bif isSh r51 then (
    (F_X4_isLane p1 s1).bind fun q2 =>
    let v2 := q2.1
    let s2 := q2.2
    bif cEq v2 0 then (
      some ((-2), s2)
    ) else (
      (F_X4_within p3 (1) (6) s2).bind fun q3 =>
      let v3 := q3.1
      let s3 := q3.2
      bif cEq v3 0 then (
        some ((-2), s3)
      ) else (
        (F_X4_isStep p4 s3).bind fun q4 =>
        let v4 := q4.1
        let s4 := q4.2
        bif cEq v4 0 then (
          some ((-2), s4)
        ) else (
          (F_X4_within p5 (0) (2) s4).bind fun q5 =>
          let v5 := q5.1
          let s5 := q5.2
          bif cNe v5 0 then (
            (F_X1_exists s5).bind fun q6 =>
            let v6 := q6.1
            let s6 := q6.2
            bif cNe v6 0 then (
              (F_X1_lookers s6).bind fun q7 =>
              let v7 := q7.1
              let s7 := q7.2
              (F_X4_take r51 p1 p2 (p3 * v7) s7).bind fun q8 =>
              let v8 := q8.1
              let s8 := q8.2
              bif cEq v8 0 then (
                (F_X1_ofBegins 18 60 p3 p4 p5 s8).bind fun q9 =>
                let v9 := q9.1
                let s9 := q9.2
                some (v9, s9)
              ) else (
                (F_X4_faulted v8 s8).bind fun q10 =>
                let v10 := q10.1
                let s10 := q10.2
                some (v10, s10)
              )
            ) else (
              some ((-3), s6)
            )
          ) else (
            some ((-2), s5)
          )
        )
      )
    )
  ) else none
set_option maxRecDepth 50000 in
theorem m_X4_begun (p0 : Int32) (p1 : Int32) (p2 : Int32) (p3 : Int32) (p4 : Int32) (p5 : Int32) (σ : PS) {v : Int32} {σ' : PS} (h : F_X4_begun p0 p1 p2 p3 p4 p5 σ = some (v, σ')) : PR 84 [.ref 0, .int p0, .int p1, .int p2, .int p3, .int p4, .int p5] σ (some (.int v)) σ' := by
  refine PR.enter (L := [some (.ref 0), some (.int p0), some (.int p1), some (.int p2), some (.int p3), some (.int p4), some (.int p5), none, none]) uT_84 uD_84 rfl rfl ?_
  unfold F_X4_begun at h
  refine RU.blk (C' := (7, [some (.ref 0), some (.int p0), some (.int p1), some (.int p2), some (.int p3), some (.int p4), some (.int p5), none, none], [.int p0, .ref 0], (sI σ 5 (0)))) 5 rfl ?_
  obtain ⟨⟨v1, s1⟩, hk, h⟩ := Option.bind_eq_some_iff.mp h
  dsimp only at h
  cases v1 with
  | none =>
    dsimp only at h
    refine RU.call (as := [.ref 0, .int p0]) (rest := []) (u := some .null) (C' := (10, [some (.ref 0), some (.int p0), some (.int p1), some (.int p2), some (.int p3), some (.int p4), some (.int p5), none, none], [.null], s1)) rfl rfl (m_X4_sheetOf p0 (sI σ 5 (0)) hk) rfl rfl ?_
    refine RU.blk (C' := (18, [some (.ref 0), some (.int p0), some (.int p1), some (.int p2), some (.int p3), some (.int p4), some (.int p5), some (.null), none], [.int (-1)], s1)) 4 rfl ?_
    obtain ⟨rfl, rfl⟩ := ret_inj h
    exact RU.ret rfl rfl rfl
  | some r51 =>
    dsimp only at h
    obtain ⟨hr51, h⟩ := cnd_n h
    refine RU.call (as := [.ref 0, .int p0]) (rest := []) (u := some (.ref r51)) (C' := (10, [some (.ref 0), some (.int p0), some (.int p1), some (.int p2), some (.int p3), some (.int p4), some (.int p5), none, none], [.ref r51], s1)) rfl rfl (m_X4_sheetOf p0 (sI σ 5 (0)) hk) rfl rfl ?_
    refine RU.blk (C' := (20, [some (.ref 0), some (.int p0), some (.int p1), some (.int p2), some (.int p3), some (.int p4), some (.int p5), some (.ref r51), none], [.int p1], s1)) 4 rfl ?_
    obtain ⟨⟨v2, s2⟩, hk, h⟩ := Option.bind_eq_some_iff.mp h
    dsimp only at h
    refine RU.call (as := [.int p1]) (rest := []) (u := some (.int v2)) (C' := (23, [some (.ref 0), some (.int p0), some (.int p1), some (.int p2), some (.int p3), some (.int p4), some (.int p5), some (.ref r51), none], [.int v2], s2)) rfl rfl (m_X4_isLane p1 s1 hk) rfl rfl ?_
    refine RU.blk (C' := (bif cEq v2 0 then 55 else 26, [some (.ref 0), some (.int p0), some (.int p1), some (.int p2), some (.int p3), some (.int p4), some (.int p5), some (.ref r51), none], [], s2)) 1 rfl ?_
    rcases cnd_some h with ⟨hc, h⟩ | ⟨hc, h⟩
    · refine RU.tt hc ?_
      refine RU.blk (C' := (57, [some (.ref 0), some (.int p0), some (.int p1), some (.int p2), some (.int p3), some (.int p4), some (.int p5), some (.ref r51), none], [.int (-2)], s2)) 1 rfl ?_
      obtain ⟨rfl, rfl⟩ := ret_inj h
      exact RU.ret rfl rfl rfl
    · refine RU.ff hc ?_
      refine RU.blk (C' := (31, [some (.ref 0), some (.int p0), some (.int p1), some (.int p2), some (.int p3), some (.int p4), some (.int p5), some (.ref r51), none], [.int (6), .int (1), .int p3], s2)) 3 rfl ?_
      obtain ⟨⟨v3, s3⟩, hk, h⟩ := Option.bind_eq_some_iff.mp h
      dsimp only at h
      refine RU.call (as := [.int p3, .int (1), .int (6)]) (rest := []) (u := some (.int v3)) (C' := (34, [some (.ref 0), some (.int p0), some (.int p1), some (.int p2), some (.int p3), some (.int p4), some (.int p5), some (.ref r51), none], [.int v3], s3)) rfl rfl (m_X4_within p3 (1) (6) s2 hk) rfl rfl ?_
      refine RU.blk (C' := (bif cEq v3 0 then 55 else 37, [some (.ref 0), some (.int p0), some (.int p1), some (.int p2), some (.int p3), some (.int p4), some (.int p5), some (.ref r51), none], [], s3)) 1 rfl ?_
      rcases cnd_some h with ⟨hc, h⟩ | ⟨hc, h⟩
      · refine RU.tt hc ?_
        refine RU.blk (C' := (57, [some (.ref 0), some (.int p0), some (.int p1), some (.int p2), some (.int p3), some (.int p4), some (.int p5), some (.ref r51), none], [.int (-2)], s3)) 1 rfl ?_
        obtain ⟨rfl, rfl⟩ := ret_inj h
        exact RU.ret rfl rfl rfl
      · refine RU.ff hc ?_
        refine RU.blk (C' := (39, [some (.ref 0), some (.int p0), some (.int p1), some (.int p2), some (.int p3), some (.int p4), some (.int p5), some (.ref r51), none], [.int p4], s3)) 1 rfl ?_
        obtain ⟨⟨v4, s4⟩, hk, h⟩ := Option.bind_eq_some_iff.mp h
        dsimp only at h
        refine RU.call (as := [.int p4]) (rest := []) (u := some (.int v4)) (C' := (42, [some (.ref 0), some (.int p0), some (.int p1), some (.int p2), some (.int p3), some (.int p4), some (.int p5), some (.ref r51), none], [.int v4], s4)) rfl rfl (m_X4_isStep p4 s3 hk) rfl rfl ?_
        refine RU.blk (C' := (bif cEq v4 0 then 55 else 45, [some (.ref 0), some (.int p0), some (.int p1), some (.int p2), some (.int p3), some (.int p4), some (.int p5), some (.ref r51), none], [], s4)) 1 rfl ?_
        rcases cnd_some h with ⟨hc, h⟩ | ⟨hc, h⟩
        · refine RU.tt hc ?_
          refine RU.blk (C' := (57, [some (.ref 0), some (.int p0), some (.int p1), some (.int p2), some (.int p3), some (.int p4), some (.int p5), some (.ref r51), none], [.int (-2)], s4)) 1 rfl ?_
          obtain ⟨rfl, rfl⟩ := ret_inj h
          exact RU.ret rfl rfl rfl
        · refine RU.ff hc ?_
          refine RU.blk (C' := (49, [some (.ref 0), some (.int p0), some (.int p1), some (.int p2), some (.int p3), some (.int p4), some (.int p5), some (.ref r51), none], [.int (2), .int (0), .int p5], s4)) 3 rfl ?_
          obtain ⟨⟨v5, s5⟩, hk, h⟩ := Option.bind_eq_some_iff.mp h
          dsimp only at h
          refine RU.call (as := [.int p5, .int (0), .int (2)]) (rest := []) (u := some (.int v5)) (C' := (52, [some (.ref 0), some (.int p0), some (.int p1), some (.int p2), some (.int p3), some (.int p4), some (.int p5), some (.ref r51), none], [.int v5], s5)) rfl rfl (m_X4_within p5 (0) (2) s4 hk) rfl rfl ?_
          refine RU.blk (C' := (bif cNe v5 0 then 58 else 55, [some (.ref 0), some (.int p0), some (.int p1), some (.int p2), some (.int p3), some (.int p4), some (.int p5), some (.ref r51), none], [], s5)) 1 rfl ?_
          rcases cnd_some h with ⟨hc, h⟩ | ⟨hc, h⟩
          · refine RU.tt hc ?_
            refine RU.blk (C' := (62, [some (.ref 0), some (.int p0), some (.int p1), some (.int p2), some (.int p3), some (.int p4), some (.int p5), some (.ref r51), none], [.ref 10], s5)) 2 rfl ?_
            obtain ⟨⟨v6, s6⟩, hk, h⟩ := Option.bind_eq_some_iff.mp h
            dsimp only at h
            refine RU.call (as := [.ref 10]) (rest := []) (u := some (.int v6)) (C' := (65, [some (.ref 0), some (.int p0), some (.int p1), some (.int p2), some (.int p3), some (.int p4), some (.int p5), some (.ref r51), none], [.int v6], s6)) rfl rfl (m_X1_exists s5 hk) rfl rfl ?_
            refine RU.blk (C' := (bif cNe v6 0 then 71 else 68, [some (.ref 0), some (.int p0), some (.int p1), some (.int p2), some (.int p3), some (.int p4), some (.int p5), some (.ref r51), none], [], s6)) 1 rfl ?_
            rcases cnd_some h with ⟨hc, h⟩ | ⟨hc, h⟩
            · refine RU.tt hc ?_
              refine RU.blk (C' := (82, [some (.ref 0), some (.int p0), some (.int p1), some (.int p2), some (.int p3), some (.int p4), some (.int p5), some (.ref r51), none], [.ref 10, .int p3, .int p2, .int p1, .ref r51, .ref 0], s6)) 7 rfl ?_
              obtain ⟨⟨v7, s7⟩, hk, h⟩ := Option.bind_eq_some_iff.mp h
              dsimp only at h
              refine RU.call (as := [.ref 10]) (rest := [.int p3, .int p2, .int p1, .ref r51, .ref 0]) (u := some (.int v7)) (C' := (85, [some (.ref 0), some (.int p0), some (.int p1), some (.int p2), some (.int p3), some (.int p4), some (.int p5), some (.ref r51), none], [.int v7, .int p3, .int p2, .int p1, .ref r51, .ref 0], s7)) rfl rfl (m_X1_lookers s6 hk) rfl rfl ?_
              refine RU.blk (C' := (86, [some (.ref 0), some (.int p0), some (.int p1), some (.int p2), some (.int p3), some (.int p4), some (.int p5), some (.ref r51), none], [.int (p3 * v7), .int p2, .int p1, .ref r51, .ref 0], s7)) 1 rfl ?_
              obtain ⟨⟨v8, s8⟩, hk, h⟩ := Option.bind_eq_some_iff.mp h
              dsimp only at h
              refine RU.call (as := [.ref 0, .ref r51, .int p1, .int p2, .int (p3 * v7)]) (rest := []) (u := some (.int v8)) (C' := (89, [some (.ref 0), some (.int p0), some (.int p1), some (.int p2), some (.int p3), some (.int p4), some (.int p5), some (.ref r51), none], [.int v8], s8)) rfl rfl (m_X4_take r51 hr51 p1 p2 (p3 * v7) s7 hk) rfl rfl ?_
              refine RU.blk (C' := (bif cEq v8 0 then 103 else 96, [some (.ref 0), some (.int p0), some (.int p1), some (.int p2), some (.int p3), some (.int p4), some (.int p5), some (.ref r51), some (.int v8)], [], s8)) 3 rfl ?_
              rcases cnd_some h with ⟨hc, h⟩ | ⟨hc, h⟩
              · refine RU.tt hc ?_
                refine RU.blk (C' := (117, [some (.ref 0), some (.int p0), some (.int p1), some (.int p2), some (.int p3), some (.int p4), some (.int p5), some (.ref r51), some (.int v8)], [.int p5, .int p4, .int p3, .ref 18, .ref 10], s8)) 7 rfl ?_
                obtain ⟨⟨v9, s9⟩, hk, h⟩ := Option.bind_eq_some_iff.mp h
                dsimp only at h
                refine RU.call (as := [.ref 10, .ref 18, .int p3, .int p4, .int p5]) (rest := []) (u := some (.int v9)) (C' := (120, [some (.ref 0), some (.int p0), some (.int p1), some (.int p2), some (.int p3), some (.int p4), some (.int p5), some (.ref r51), some (.int v8)], [.int v9], s9)) rfl rfl (m_X1_ofBegins 18 60 rfl p3 p4 p5 s8 hk) rfl rfl ?_
                obtain ⟨rfl, rfl⟩ := ret_inj h
                exact RU.ret rfl rfl rfl
              · refine RU.ff hc ?_
                refine RU.blk (C' := (99, [some (.ref 0), some (.int p0), some (.int p1), some (.int p2), some (.int p3), some (.int p4), some (.int p5), some (.ref r51), some (.int v8)], [.int v8, .ref 0], s8)) 2 rfl ?_
                obtain ⟨⟨v10, s10⟩, hk, h⟩ := Option.bind_eq_some_iff.mp h
                dsimp only at h
                refine RU.call (as := [.ref 0, .int v8]) (rest := []) (u := some (.int v10)) (C' := (102, [some (.ref 0), some (.int p0), some (.int p1), some (.int p2), some (.int p3), some (.int p4), some (.int p5), some (.ref r51), some (.int v8)], [.int v10], s10)) rfl rfl (m_X4_faulted v8 s8 hk) rfl rfl ?_
                obtain ⟨rfl, rfl⟩ := ret_inj h
                exact RU.ret rfl rfl rfl
            · refine RU.ff hc ?_
              refine RU.blk (C' := (70, [some (.ref 0), some (.int p0), some (.int p1), some (.int p2), some (.int p3), some (.int p4), some (.int p5), some (.ref r51), none], [.int (-3)], s6)) 1 rfl ?_
              obtain ⟨rfl, rfl⟩ := ret_inj h
              exact RU.ret rfl rfl rfl
          · refine RU.ff hc ?_
            refine RU.blk (C' := (57, [some (.ref 0), some (.int p0), some (.int p1), some (.int p2), some (.int p3), some (.int p4), some (.int p5), some (.ref r51), none], [.int (-2)], s5)) 1 rfl ?_
            obtain ⟨rfl, rfl⟩ := ret_inj h
            exact RU.ret rfl rfl rfl
