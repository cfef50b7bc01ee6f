noncomputable def L_X1_fewestAcross  : Nat → Int32 → Int32 → Int32 → PS → Option (Int32 × PS)
  | 0, _, _, _, _ => none
  | n + 1, x1, x2, x3, σ => 
    bif cGe x3 (gI σ 645) then (
      some (x2, σ)
    ) else (
      (F_X1_columnOf x1 σ).bind fun q1 =>
      let v1 := q1.1
      let s1 := q1.2
      (F_X1_isGone x3 s1).bind fun q2 =>
      let v2 := q2.1
      let s2 := q2.2
      bif cNe v2 0 then (
        L_X1_fewestAcross n  x1 x2 (x3 + (1)) s2
      ) else (
        bif cLt (v1 - x3) 0 then (
          L_X1_fewestAcross n  x1 x2 (x3 + (1)) s2
        ) else (
          bif cLe ((v1 - x3) + (gI s2 645)) (gI s2 643) then (
            (F_X1_columnOf (gI s2 647) s2).bind fun q3 =>
            let v3 := q3.1
            let s3 := q3.2
            bif cGe (iabs ((v1 - x3) - v3)) (iabs x2) then (
              L_X1_fewestAcross n  x1 x2 (x3 + (1)) s3
            ) else (
              L_X1_fewestAcross n  x1 ((v1 - x3) - v3) (x3 + (1)) s3
            )
          ) else (
            L_X1_fewestAcross n  x1 x2 (x3 + (1)) s2
          )
        )
      )
    )
set_option maxRecDepth 50000 in
theorem ml_X1_fewestAcross  (n : Nat) : (∀ (x1 : Int32) (x2 : Int32) (x3 : Int32) (u4 : Option Value) (u5 : Option Value) (σ : PS) (v : Int32) (σ' : PS), L_X1_fewestAcross n x1 x2 x3 σ = some (v, σ') → RU ubX1_fewestAcross 1 21 (5, [some (.ref 10), some (.int x1), some (.int x2), some (.int x3), u4, u5], [], σ) (some (.int v)) σ') := by
  induction n with
  | zero =>
    intro x1 x2 x3 u4 u5 σ v σ' h; exact absurd (show (none : Option (Int32 × PS)) = some (v, σ') from h) (by simp)
  | succ n ih =>
    intro x1 x2 x3 u4 u5 σ v σ' h
    rw [L_X1_fewestAcross] at h
    refine RU.blk (C' := (bif cGe x3 (gI σ 645) then 86 else 13, [some (.ref 10), some (.int x1), some (.int x2), some (.int x3), none, none], [], σ)) 4 rfl ?_
    rcases cnd_some h with ⟨hc, h⟩ | ⟨hc, h⟩
    · refine RU.tt hc ?_
      refine RU.blk (C' := (87, [some (.ref 10), some (.int x1), some (.int x2), some (.int x3), none, none], [.int x2], σ)) 1 rfl ?_
      obtain ⟨rfl, rfl⟩ := ret_inj h
      exact RU.ret rfl rfl rfl
    · refine RU.ff hc ?_
      refine RU.blk (C' := (15, [some (.ref 10), some (.int x1), some (.int x2), some (.int x3), none, none], [.int x1, .ref 10], σ)) 2 rfl ?_
      obtain ⟨⟨v1, s1⟩, hk, h⟩ := Option.bind_eq_some_iff.mp h
      dsimp only at h
      refine RU.call (as := [.ref 10, .int x1]) (rest := []) (u := some (.int v1)) (C' := (18, [some (.ref 10), some (.int x1), some (.int x2), some (.int x3), none, none], [.int v1], s1)) rfl rfl (m_X1_columnOf x1 σ hk) rfl rfl ?_
      refine RU.blk (C' := (24, [some (.ref 10), some (.int x1), some (.int x2), some (.int x3), some (.int (v1 - x3)), none], [.int x3, .ref 10], s1)) 5 rfl ?_
      obtain ⟨⟨v2, s2⟩, hk, h⟩ := Option.bind_eq_some_iff.mp h
      dsimp only at h
      refine RU.call (as := [.ref 10, .int x3]) (rest := []) (u := some (.int v2)) (C' := (27, [some (.ref 10), some (.int x1), some (.int x2), some (.int x3), some (.int (v1 - x3)), none], [.int v2], s2)) rfl rfl (m_X1_isGone x3 s1 hk) rfl rfl ?_
      refine RU.blk (C' := (bif cNe v2 0 then 80 else 30, [some (.ref 10), some (.int x1), some (.int x2), some (.int x3), some (.int (v1 - x3)), none], [], s2)) 1 rfl ?_
      rcases cnd_some h with ⟨hc, h⟩ | ⟨hc, h⟩
      · refine RU.tt hc ?_
        refine RU.blk (C' := (5, [some (.ref 10), some (.int x1), some (.int x2), some (.int (x3 + (1))), some (.int (v1 - x3)), none], [], s2)) 2 rfl ?_
        exact ih x1 x2 (x3 + (1)) (some (.int (v1 - x3))) none _ _ _ h
      · refine RU.ff hc ?_
        refine RU.blk (C' := (bif cLt (v1 - x3) 0 then 80 else 35, [some (.ref 10), some (.int x1), some (.int x2), some (.int x3), some (.int (v1 - x3)), none], [], s2)) 2 rfl ?_
        rcases cnd_some h with ⟨hc, h⟩ | ⟨hc, h⟩
        · refine RU.tt hc ?_
          refine RU.blk (C' := (5, [some (.ref 10), some (.int x1), some (.int x2), some (.int (x3 + (1))), some (.int (v1 - x3)), none], [], s2)) 2 rfl ?_
          exact ih x1 x2 (x3 + (1)) (some (.int (v1 - x3))) none _ _ _ h
        · refine RU.ff hc ?_
          refine RU.blk (C' := (bif cLe ((v1 - x3) + (gI s2 645)) (gI s2 643) then 52 else 49, [some (.ref 10), some (.int x1), some (.int x2), some (.int x3), some (.int (v1 - x3)), none], [], s2)) 7 rfl ?_
          rcases cnd_some h with ⟨hc, h⟩ | ⟨hc, h⟩
          · refine RU.tt hc ?_
            refine RU.blk (C' := (59, [some (.ref 10), some (.int x1), some (.int x2), some (.int x3), some (.int (v1 - x3)), none], [.int (gI s2 647), .ref 10, .int (v1 - x3)], s2)) 4 rfl ?_
            obtain ⟨⟨v3, s3⟩, hk, h⟩ := Option.bind_eq_some_iff.mp h
            dsimp only at h
            refine RU.call (as := [.ref 10, .int (gI s2 647)]) (rest := [.int (v1 - x3)]) (u := some (.int v3)) (C' := (62, [some (.ref 10), some (.int x1), some (.int x2), some (.int x3), some (.int (v1 - x3)), none], [.int v3, .int (v1 - x3)], s3)) rfl rfl (m_X1_columnOf (gI s2 647) s2 hk) rfl rfl ?_
            refine RU.blk (C' := (bif cGe (iabs ((v1 - x3) - v3)) (iabs x2) then 80 else 77, [some (.ref 10), some (.int x1), some (.int x2), some (.int x3), some (.int (v1 - x3)), some (.int ((v1 - x3) - v3))], [], s3)) 7 rfl ?_
            rcases cnd_some h with ⟨hc, h⟩ | ⟨hc, h⟩
            · refine RU.tt hc ?_
              refine RU.blk (C' := (5, [some (.ref 10), some (.int x1), some (.int x2), some (.int (x3 + (1))), some (.int (v1 - x3)), some (.int ((v1 - x3) - v3))], [], s3)) 2 rfl ?_
              exact ih x1 x2 (x3 + (1)) (some (.int (v1 - x3))) (some (.int ((v1 - x3) - v3))) _ _ _ h
            · refine RU.ff hc ?_
              refine RU.blk (C' := (5, [some (.ref 10), some (.int x1), some (.int ((v1 - x3) - v3)), some (.int (x3 + (1))), some (.int (v1 - x3)), some (.int ((v1 - x3) - v3))], [], s3)) 4 rfl ?_
              exact ih x1 ((v1 - x3) - v3) (x3 + (1)) (some (.int (v1 - x3))) (some (.int ((v1 - x3) - v3))) _ _ _ h
          · refine RU.ff hc ?_
            refine RU.blk (C' := (5, [some (.ref 10), some (.int x1), some (.int x2), some (.int (x3 + (1))), some (.int (v1 - x3)), none], [], s2)) 3 rfl ?_
            exact ih x1 x2 (x3 + (1)) (some (.int (v1 - x3))) none _ _ _ h
noncomputable def F_X1_fewestAcross (p0 : Int32) (σ : PS) : Option (Int32 × PS) :=
  L_X1_fewestAcross fuelN  p0 (99) (0) σ
set_option maxRecDepth 50000 in
theorem m_X1_fewestAcross (p0 : Int32) (σ : PS) {v : Int32} {σ' : PS} (h : F_X1_fewestAcross p0 σ = some (v, σ')) : PR 39 [.ref 10, .int p0] σ (some (.int v)) σ' := by
  refine PR.enter (L := [some (.ref 10), some (.int p0), none, none, none, none]) uT_39 uD_39 rfl rfl ?_
  unfold F_X1_fewestAcross at h
  refine RU.blk (C' := (5, [some (.ref 10), some (.int p0), some (.int (99)), some (.int (0)), none, none], [], σ)) 4 rfl ?_
  exact (ml_X1_fewestAcross fuelN) p0 (99) (0) none none _ _ _ h
noncomputable def F_X1_ofWay (p0 : Int32) (p1 : Int32) (σ : PS) : Option (Int32 × PS) :=
  (F_X1_fewestAcross p0 σ).bind fun q1 =>
  let v1 := q1.1
  let s1 := q1.2
  bif cNe v1 (99) then (
    (F_X1_rowOf p0 s1).bind fun q2 =>
    let v2 := q2.1
    let s2 := q2.2
    (F_X1_rowOf (gI s2 647) s2).bind fun q3 =>
    let v3 := q3.1
    let s3 := q3.2
    (some ((((imax (- (v2 - v3)) (0)) + (imax v1 (0))) + (imax (v2 - v3) (0))) + (imax (- v1) (0)))).bind fun (t4 : Int32) =>
    bif cGe p1 0 then (
      bif cGe p1 (imax (- (v2 - v3)) (0)) then (
        bif cGe p1 ((imax (- (v2 - v3)) (0)) + (imax v1 (0))) then (
          bif cGe p1 (((imax (- (v2 - v3)) (0)) + (imax v1 (0))) + (imax (v2 - v3) (0))) then (
            bif cGe p1 t4 then (
              some ((-9), s3)
            ) else (
              some ((3), s3)
            )
          ) else (
            some ((2), s3)
          )
        ) else (
          some ((1), s3)
        )
      ) else (
        some ((0), s3)
      )
    ) else (
      some (t4, s3)
    )
  ) else (
    some ((-9), s1)
  )
set_option maxRecDepth 50000 in
theorem m_X1_ofWay (p0 : Int32) (p1 : Int32) (σ : PS) {v : Int32} {σ' : PS} (h : F_X1_ofWay p0 p1 σ = some (v, σ')) : PR 38 [.ref 10, .int p0, .int p1] σ (some (.int v)) σ' := by
  refine PR.enter (L := [some (.ref 10), some (.int p0), some (.int p1), none, none, none, none, none, none]) uT_38 uD_38 rfl rfl ?_
  unfold F_X1_ofWay at h
  refine RU.blk (C' := (2, [some (.ref 10), some (.int p0), some (.int p1), none, none, none, none, none, none], [.int p0, .ref 10], σ)) 2 rfl ?_
  obtain ⟨⟨v1, s1⟩, hk, h⟩ := Option.bind_eq_some_iff.mp h
  dsimp only at h
  refine RU.call (as := [.ref 10, .int p0]) (rest := []) (u := some (.int v1)) (C' := (5, [some (.ref 10), some (.int p0), some (.int p1), none, none, none, none, none, none], [.int v1], s1)) rfl rfl (m_X1_fewestAcross p0 σ hk) rfl rfl ?_
  refine RU.blk (C' := (bif cNe v1 (99) then 15 else 12, [some (.ref 10), some (.int p0), some (.int p1), some (.int v1), none, none, none, none, none], [], s1)) 4 rfl ?_
  rcases cnd_some h with ⟨hc, h⟩ | ⟨hc, h⟩
  · refine RU.tt hc ?_
    refine RU.blk (C' := (17, [some (.ref 10), some (.int p0), some (.int p1), some (.int v1), none, none, none, none, none], [.int p0, .ref 10], s1)) 2 rfl ?_
    obtain ⟨⟨v2, s2⟩, hk, h⟩ := Option.bind_eq_some_iff.mp h
    dsimp only at h
    refine RU.call (as := [.ref 10, .int p0]) (rest := []) (u := some (.int v2)) (C' := (20, [some (.ref 10), some (.int p0), some (.int p1), some (.int v1), none, none, none, none, none], [.int v2], s2)) rfl rfl (m_X1_rowOf p0 s1 hk) rfl rfl ?_
    refine RU.blk (C' := (25, [some (.ref 10), some (.int p0), some (.int p1), some (.int v1), none, none, none, none, none], [.int (gI s2 647), .ref 10, .int v2], s2)) 3 rfl ?_
    obtain ⟨⟨v3, s3⟩, hk, h⟩ := Option.bind_eq_some_iff.mp h
    dsimp only at h
    refine RU.call (as := [.ref 10, .int (gI s2 647)]) (rest := [.int v2]) (u := some (.int v3)) (C' := (28, [some (.ref 10), some (.int p0), some (.int p1), some (.int v1), none, none, none, none, none], [.int v3, .int v2], s3)) rfl rfl (m_X1_rowOf (gI s2 647) s2 hk) rfl rfl ?_
    refine RU.blk (C' := (72, [some (.ref 10), some (.int p0), some (.int p1), some (.int v1), some (.int (v2 - v3)), some (.int (imax (- (v2 - v3)) (0))), some (.int ((imax (- (v2 - v3)) (0)) + (imax v1 (0)))), some (.int (((imax (- (v2 - v3)) (0)) + (imax v1 (0))) + (imax (v2 - v3) (0)))), some (.int ((((imax (- (v2 - v3)) (0)) + (imax v1 (0))) + (imax (v2 - v3) (0))) + (imax (- v1) (0))))], [], s3)) 26 rfl ?_
    obtain ⟨t4, et4, h⟩ := Option.bind_eq_some_iff.mp h
    have et4 := Option.some.inj et4
    rw [et4]
    refine RU.blk (C' := (bif cGe p1 0 then 79 else 76, [some (.ref 10), some (.int p0), some (.int p1), some (.int v1), some (.int (v2 - v3)), some (.int (imax (- (v2 - v3)) (0))), some (.int ((imax (- (v2 - v3)) (0)) + (imax v1 (0)))), some (.int (((imax (- (v2 - v3)) (0)) + (imax v1 (0))) + (imax (v2 - v3) (0)))), some (.int t4)], [], s3)) 2 rfl ?_
    rcases cnd_some h with ⟨hc, h⟩ | ⟨hc, h⟩
    · refine RU.tt hc ?_
      refine RU.blk (C' := (bif cGe p1 (imax (- (v2 - v3)) (0)) then 87 else 85, [some (.ref 10), some (.int p0), some (.int p1), some (.int v1), some (.int (v2 - v3)), some (.int (imax (- (v2 - v3)) (0))), some (.int ((imax (- (v2 - v3)) (0)) + (imax v1 (0)))), some (.int (((imax (- (v2 - v3)) (0)) + (imax v1 (0))) + (imax (v2 - v3) (0)))), some (.int t4)], [], s3)) 3 rfl ?_
      rcases cnd_some h with ⟨hc, h⟩ | ⟨hc, h⟩
      · refine RU.tt hc ?_
        refine RU.blk (C' := (bif cGe p1 ((imax (- (v2 - v3)) (0)) + (imax v1 (0))) then 95 else 93, [some (.ref 10), some (.int p0), some (.int p1), some (.int v1), some (.int (v2 - v3)), some (.int (imax (- (v2 - v3)) (0))), some (.int ((imax (- (v2 - v3)) (0)) + (imax v1 (0)))), some (.int (((imax (- (v2 - v3)) (0)) + (imax v1 (0))) + (imax (v2 - v3) (0)))), some (.int t4)], [], s3)) 3 rfl ?_
        rcases cnd_some h with ⟨hc, h⟩ | ⟨hc, h⟩
        · refine RU.tt hc ?_
          refine RU.blk (C' := (bif cGe p1 (((imax (- (v2 - v3)) (0)) + (imax v1 (0))) + (imax (v2 - v3) (0))) then 103 else 101, [some (.ref 10), some (.int p0), some (.int p1), some (.int v1), some (.int (v2 - v3)), some (.int (imax (- (v2 - v3)) (0))), some (.int ((imax (- (v2 - v3)) (0)) + (imax v1 (0)))), some (.int (((imax (- (v2 - v3)) (0)) + (imax v1 (0))) + (imax (v2 - v3) (0)))), some (.int t4)], [], s3)) 3 rfl ?_
          rcases cnd_some h with ⟨hc, h⟩ | ⟨hc, h⟩
          · refine RU.tt hc ?_
            refine RU.blk (C' := (bif cGe p1 t4 then 113 else 109, [some (.ref 10), some (.int p0), some (.int p1), some (.int v1), some (.int (v2 - v3)), some (.int (imax (- (v2 - v3)) (0))), some (.int ((imax (- (v2 - v3)) (0)) + (imax v1 (0)))), some (.int (((imax (- (v2 - v3)) (0)) + (imax v1 (0))) + (imax (v2 - v3) (0)))), some (.int t4)], [], s3)) 3 rfl ?_
            rcases cnd_some h with ⟨hc, h⟩ | ⟨hc, h⟩
            · refine RU.tt hc ?_
              refine RU.blk (C' := (115, [some (.ref 10), some (.int p0), some (.int p1), some (.int v1), some (.int (v2 - v3)), some (.int (imax (- (v2 - v3)) (0))), some (.int ((imax (- (v2 - v3)) (0)) + (imax v1 (0)))), some (.int (((imax (- (v2 - v3)) (0)) + (imax v1 (0))) + (imax (v2 - v3) (0)))), some (.int t4)], [.int (-9)], s3)) 1 rfl ?_
              obtain ⟨rfl, rfl⟩ := ret_inj h
              exact RU.ret rfl rfl rfl
            · refine RU.ff hc ?_
              refine RU.blk (C' := (115, [some (.ref 10), some (.int p0), some (.int p1), some (.int v1), some (.int (v2 - v3)), some (.int (imax (- (v2 - v3)) (0))), some (.int ((imax (- (v2 - v3)) (0)) + (imax v1 (0)))), some (.int (((imax (- (v2 - v3)) (0)) + (imax v1 (0))) + (imax (v2 - v3) (0)))), some (.int t4)], [.int (3)], s3)) 2 rfl ?_
              obtain ⟨rfl, rfl⟩ := ret_inj h
              exact RU.ret rfl rfl rfl
          · refine RU.ff hc ?_
            refine RU.blk (C' := (102, [some (.ref 10), some (.int p0), some (.int p1), some (.int v1), some (.int (v2 - v3)), some (.int (imax (- (v2 - v3)) (0))), some (.int ((imax (- (v2 - v3)) (0)) + (imax v1 (0)))), some (.int (((imax (- (v2 - v3)) (0)) + (imax v1 (0))) + (imax (v2 - v3) (0)))), some (.int t4)], [.int (2)], s3)) 1 rfl ?_
            obtain ⟨rfl, rfl⟩ := ret_inj h
            exact RU.ret rfl rfl rfl
        · refine RU.ff hc ?_
          refine RU.blk (C' := (94, [some (.ref 10), some (.int p0), some (.int p1), some (.int v1), some (.int (v2 - v3)), some (.int (imax (- (v2 - v3)) (0))), some (.int ((imax (- (v2 - v3)) (0)) + (imax v1 (0)))), some (.int (((imax (- (v2 - v3)) (0)) + (imax v1 (0))) + (imax (v2 - v3) (0)))), some (.int t4)], [.int (1)], s3)) 1 rfl ?_
          obtain ⟨rfl, rfl⟩ := ret_inj h
          exact RU.ret rfl rfl rfl
      · refine RU.ff hc ?_
        refine RU.blk (C' := (86, [some (.ref 10), some (.int p0), some (.int p1), some (.int v1), some (.int (v2 - v3)), some (.int (imax (- (v2 - v3)) (0))), some (.int ((imax (- (v2 - v3)) (0)) + (imax v1 (0)))), some (.int (((imax (- (v2 - v3)) (0)) + (imax v1 (0))) + (imax (v2 - v3) (0)))), some (.int t4)], [.int (0)], s3)) 1 rfl ?_
        obtain ⟨rfl, rfl⟩ := ret_inj h
        exact RU.ret rfl rfl rfl
    · refine RU.ff hc ?_
      refine RU.blk (C' := (78, [some (.ref 10), some (.int p0), some (.int p1), some (.int v1), some (.int (v2 - v3)), some (.int (imax (- (v2 - v3)) (0))), some (.int ((imax (- (v2 - v3)) (0)) + (imax v1 (0)))), some (.int (((imax (- (v2 - v3)) (0)) + (imax v1 (0))) + (imax (v2 - v3) (0)))), some (.int t4)], [.int t4], s3)) 1 rfl ?_
      obtain ⟨rfl, rfl⟩ := ret_inj h
      exact RU.ret rfl rfl rfl
  · refine RU.ff hc ?_
    refine RU.blk (C' := (14, [some (.ref 10), some (.int p0), some (.int p1), some (.int v1), none, none, none, none, none], [.int (-9)], s1)) 1 rfl ?_
    obtain ⟨rfl, rfl⟩ := ret_inj h
    exact RU.ret rfl rfl rfl
noncomputable def F_X1_stepOfRow (p0 : Int32) (p1 : Int32) (p2 : Int32) (σ : PS) : Option (Int32 × PS) :=
  some (((shr p0 ((2) * ((p1 - (1)) - p2))) &&& (3)), σ)
set_option maxRecDepth 50000 in
theorem m_X1_stepOfRow (p0 : Int32) (p1 : Int32) (p2 : Int32) (σ : PS) {v : Int32} {σ' : PS} (h : F_X1_stepOfRow p0 p1 p2 σ = some (v, σ')) : PR 42 [.int p0, .int p1, .int p2] σ (some (.int v)) σ' := by
  refine PR.enter (L := [some (.int p0), some (.int p1), some (.int p2)]) uT_42 uD_42 rfl rfl ?_
  unfold F_X1_stepOfRow at h
  refine RU.blk (C' := (11, [some (.int p0), some (.int p1), some (.int p2)], [.int ((shr p0 ((2) * ((p1 - (1)) - p2))) &&& (3))], σ)) 11 rfl ?_
  obtain ⟨rfl, rfl⟩ := ret_inj h
  exact RU.ret rfl rfl rfl
noncomputable def L_X1_gainOf  : Nat → Int32 → Int32 → Int32 → Int64 → Int32 → PS → Option (Int32 × PS)
  | 0, _, _, _, _, _, _ => none
  | n + 1, x1, x2, x3, y4, x6, σ => 
    bif cGe x6 x2 then (
      (F_J13_bitCount_95d88 (y4 &&& ((gL σ 648) ^^^ (-1))) σ).bind fun q1 =>
      let v1 := q1.1
      let s1 := q1.2
      some (v1, s1)
    ) else (
      (F_X1_stepOfRow x1 x2 x6 σ).bind fun q2 =>
      let v2 := q2.1
      let s2 := q2.2
      (F_X1_nextPlace x3 v2 s2).bind fun q3 =>
      let v3 := q3.1
      let s3 := q3.2
      bif cNe v3 (-9) then (
        (F_X1_seenFrom v3 s3).bind fun q4 =>
        let v4 := q4.1
        let s4 := q4.2
        L_X1_gainOf n  x1 x2 v3 (y4 ||| v4) (x6 + (1)) s4
      ) else (
        some ((-9), s3)
      )
    )
set_option maxRecDepth 50000 in
theorem ml_X1_gainOf  (n : Nat) : (∀ (x1 : Int32) (x2 : Int32) (x3 : Int32) (y4 : Int64) (x6 : Int32) (σ : PS) (v : Int32) (σ' : PS), L_X1_gainOf n x1 x2 x3 y4 x6 σ = some (v, σ') → RU ubX1_gainOf 2 43 (11, [some (.ref 10), some (.int x1), some (.int x2), some (.int x3), some (.long y4), none, some (.int x6)], [], σ) (some (.int v)) σ') := by
  induction n with
  | zero =>
    intro x1 x2 x3 y4 x6 σ v σ' h; exact absurd (show (none : Option (Int32 × PS)) = some (v, σ') from h) (by simp)
  | succ n ih =>
    intro x1 x2 x3 y4 x6 σ v σ' h
    rw [L_X1_gainOf] at h
    refine RU.blk (C' := (bif cGe x6 x2 then 55 else 17, [some (.ref 10), some (.int x1), some (.int x2), some (.int x3), some (.long y4), none, some (.int x6)], [], σ)) 3 rfl ?_
    rcases cnd_some h with ⟨hc, h⟩ | ⟨hc, h⟩
    · refine RU.tt hc ?_
      refine RU.blk (C' := (66, [some (.ref 10), some (.int x1), some (.int x2), some (.int x3), some (.long y4), none, some (.int x6)], [.long (y4 &&& ((gL σ 648) ^^^ (-1)))], σ)) 6 rfl ?_
      obtain ⟨⟨v1, s1⟩, hk, h⟩ := Option.bind_eq_some_iff.mp h
      dsimp only at h
      refine RU.call (as := [.long (y4 &&& ((gL σ 648) ^^^ (-1)))]) (rest := []) (u := some (.int v1)) (C' := (69, [some (.ref 10), some (.int x1), some (.int x2), some (.int x3), some (.long y4), none, some (.int x6)], [.int v1], s1)) rfl rfl (m_J13_bitCount_95d88 (y4 &&& ((gL σ 648) ^^^ (-1))) σ hk) rfl rfl ?_
      obtain ⟨rfl, rfl⟩ := ret_inj h
      exact RU.ret rfl rfl rfl
    · refine RU.ff hc ?_
      refine RU.blk (C' := (23, [some (.ref 10), some (.int x1), some (.int x2), some (.int x3), some (.long y4), none, some (.int x6)], [.int x6, .int x2, .int x1, .int x3, .ref 10], σ)) 5 rfl ?_
      obtain ⟨⟨v2, s2⟩, hk, h⟩ := Option.bind_eq_some_iff.mp h
      dsimp only at h
      refine RU.call (as := [.int x1, .int x2, .int x6]) (rest := [.int x3, .ref 10]) (u := some (.int v2)) (C' := (26, [some (.ref 10), some (.int x1), some (.int x2), some (.int x3), some (.long y4), none, some (.int x6)], [.int v2, .int x3, .ref 10], s2)) rfl rfl (m_X1_stepOfRow x1 x2 x6 σ hk) rfl rfl ?_
      obtain ⟨⟨v3, s3⟩, hk, h⟩ := Option.bind_eq_some_iff.mp h
      dsimp only at h
      refine RU.call (as := [.ref 10, .int x3, .int v2]) (rest := []) (u := some (.int v3)) (C' := (29, [some (.ref 10), some (.int x1), some (.int x2), some (.int x3), some (.long y4), none, some (.int x6)], [.int v3], s3)) rfl rfl (m_X1_nextPlace x3 v2 s2 hk) rfl rfl ?_
      refine RU.blk (C' := (bif cNe v3 (-9) then 39 else 36, [some (.ref 10), some (.int x1), some (.int x2), some (.int v3), some (.long y4), none, some (.int x6)], [], s3)) 4 rfl ?_
      rcases cnd_some h with ⟨hc, h⟩ | ⟨hc, h⟩
      · refine RU.tt hc ?_
        refine RU.blk (C' := (43, [some (.ref 10), some (.int x1), some (.int x2), some (.int v3), some (.long y4), none, some (.int x6)], [.int v3, .ref 10, .long y4], s3)) 3 rfl ?_
        obtain ⟨⟨v4, s4⟩, hk, h⟩ := Option.bind_eq_some_iff.mp h
        dsimp only at h
        refine RU.call (as := [.ref 10, .int v3]) (rest := [.long y4]) (u := some (.long v4)) (C' := (46, [some (.ref 10), some (.int x1), some (.int x2), some (.int v3), some (.long y4), none, some (.int x6)], [.long v4, .long y4], s4)) rfl rfl (m_X1_seenFrom v3 s3 hk) rfl rfl ?_
        refine RU.blk (C' := (11, [some (.ref 10), some (.int x1), some (.int x2), some (.int v3), some (.long (y4 ||| v4)), none, some (.int (x6 + (1)))], [], s4)) 4 rfl ?_
        exact ih x1 x2 v3 (y4 ||| v4) (x6 + (1)) _ _ _ h
      · refine RU.ff hc ?_
        refine RU.blk (C' := (38, [some (.ref 10), some (.int x1), some (.int x2), some (.int v3), some (.long y4), none, some (.int x6)], [.int (-9)], s3)) 1 rfl ?_
        obtain ⟨rfl, rfl⟩ := ret_inj h
        exact RU.ret rfl rfl rfl
noncomputable def F_X1_gainOf (p0 : Int32) (p1 : Int32) (σ : PS) : Option (Int32 × PS) :=
  L_X1_gainOf fuelN  p0 p1 (gI σ 647) 0 (0) σ
set_option maxRecDepth 50000 in
theorem m_X1_gainOf (p0 : Int32) (p1 : Int32) (σ : PS) {v : Int32} {σ' : PS} (h : F_X1_gainOf p0 p1 σ = some (v, σ')) : PR 43 [.ref 10, .int p0, .int p1] σ (some (.int v)) σ' := by
  refine PR.enter (L := [some (.ref 10), some (.int p0), some (.int p1), none, none, none, none]) uT_43 uD_43 rfl rfl ?_
  unfold F_X1_gainOf at h
  refine RU.blk (C' := (11, [some (.ref 10), some (.int p0), some (.int p1), some (.int (gI σ 647)), some (.long 0), none, some (.int (0))], [], σ)) 7 rfl ?_
  exact (ml_X1_gainOf fuelN) p0 p1 (gI σ 647) 0 (0) _ _ _ h
noncomputable def L_X1_bestRow  : Nat → Int32 → Int32 → Int32 → Int32 → PS → Option (Int32 × PS)
  | 0, _, _, _, _, _ => none
  | n + 1, x1, x2, x3, x4, σ => 
    bif cGe x4 (shl (1) ((2) * x1)) then (
      some (x2, σ)
    ) else (
      (F_X1_gainOf x4 x1 σ).bind fun q1 =>
      let v1 := q1.1
      let s1 := q1.2
      bif cLe v1 x3 then (
        L_X1_bestRow n  x1 x2 x3 (x4 + (1)) s1
      ) else (
        L_X1_bestRow n  x1 x4 v1 (x4 + (1)) s1
      )
    )
set_option maxRecDepth 50000 in
theorem ml_X1_bestRow  (n : Nat) : (∀ (x1 : Int32) (x2 : Int32) (x3 : Int32) (x4 : Int32) (u5 : Option Value) (σ : PS) (v : Int32) (σ' : PS), L_X1_bestRow n x1 x2 x3 x4 σ = some (v, σ') → RU ubX1_bestRow 3 69 (9, [some (.ref 10), some (.int x1), some (.int x2), some (.int x3), some (.int x4), u5], [], σ) (some (.int v)) σ') := by
  induction n with
  | zero =>
    intro x1 x2 x3 x4 u5 σ v σ' h; exact absurd (show (none : Option (Int32 × PS)) = some (v, σ') from h) (by simp)
  | succ n ih =>
    intro x1 x2 x3 x4 u5 σ v σ' h
    rw [L_X1_bestRow] at h
    refine RU.blk (C' := (bif cGe x4 (shl (1) ((2) * x1)) then 46 else 19, [some (.ref 10), some (.int x1), some (.int x2), some (.int x3), some (.int x4), none], [], σ)) 7 rfl ?_
    rcases cnd_some h with ⟨hc, h⟩ | ⟨hc, h⟩
    · refine RU.tt hc ?_
      refine RU.blk (C' := (47, [some (.ref 10), some (.int x1), some (.int x2), some (.int x3), some (.int x4), none], [.int x2], σ)) 1 rfl ?_
      obtain ⟨rfl, rfl⟩ := ret_inj h
      exact RU.ret rfl rfl rfl
    · refine RU.ff hc ?_
      refine RU.blk (C' := (23, [some (.ref 10), some (.int x1), some (.int x2), some (.int x3), some (.int x4), none], [.int x1, .int x4, .ref 10], σ)) 3 rfl ?_
      obtain ⟨⟨v1, s1⟩, hk, h⟩ := Option.bind_eq_some_iff.mp h
      dsimp only at h
      refine RU.call (as := [.ref 10, .int x4, .int x1]) (rest := []) (u := some (.int v1)) (C' := (26, [some (.ref 10), some (.int x1), some (.int x2), some (.int x3), some (.int x4), none], [.int v1], s1)) rfl rfl (m_X1_gainOf x4 x1 σ hk) rfl rfl ?_
      refine RU.blk (C' := (bif cLe v1 x3 then 40 else 34, [some (.ref 10), some (.int x1), some (.int x2), some (.int x3), some (.int x4), some (.int v1)], [], s1)) 4 rfl ?_
      rcases cnd_some h with ⟨hc, h⟩ | ⟨hc, h⟩
      · refine RU.tt hc ?_
        refine RU.blk (C' := (9, [some (.ref 10), some (.int x1), some (.int x2), some (.int x3), some (.int (x4 + (1))), some (.int v1)], [], s1)) 2 rfl ?_
        exact ih x1 x2 x3 (x4 + (1)) (some (.int v1)) _ _ _ h
      · refine RU.ff hc ?_
        refine RU.blk (C' := (9, [some (.ref 10), some (.int x1), some (.int x4), some (.int v1), some (.int (x4 + (1))), some (.int v1)], [], s1)) 6 rfl ?_
        exact ih x1 x4 v1 (x4 + (1)) (some (.int v1)) _ _ _ h
noncomputable def F_X1_bestRow (p0 : Int32) (σ : PS) : Option (Int32 × PS) :=
  L_X1_bestRow fuelN  p0 (-9) (-9) (0) σ
set_option maxRecDepth 50000 in
theorem m_X1_bestRow (p0 : Int32) (σ : PS) {v : Int32} {σ' : PS} (h : F_X1_bestRow p0 σ = some (v, σ')) : PR 41 [.ref 10, .int p0] σ (some (.int v)) σ' := by
  refine PR.enter (L := [some (.ref 10), some (.int p0), none, none, none, none]) uT_41 uD_41 rfl rfl ?_
  unfold F_X1_bestRow at h
  refine RU.blk (C' := (9, [some (.ref 10), some (.int p0), some (.int (-9)), some (.int (-9)), some (.int (0)), none], [], σ)) 6 rfl ?_
  exact (ml_X1_bestRow fuelN) p0 (-9) (-9) (0) none _ _ _ h
noncomputable def F_X1_ofMost (p0 : Int32) (p1 : Int32) (σ : PS) : Option (Int32 × PS) :=
  (F_X1_bestRow p0 σ).bind fun q1 =>
  let v1 := q1.1
  let s1 := q1.2
  bif cEq v1 (-9) then (
    some ((-9), s1)
  ) else (
    bif cLt p1 p0 then (
      bif cGe p1 0 then (
        (F_X1_stepOfRow v1 p0 p1 s1).bind fun q2 =>
        let v2 := q2.1
        let s2 := q2.2
        some (v2, s2)
      ) else (
        (F_X1_gainOf v1 p0 s1).bind fun q3 =>
        let v3 := q3.1
        let s3 := q3.2
        some (v3, s3)
      )
    ) else (
      some ((-9), s1)
    )
  )
set_option maxRecDepth 50000 in
theorem m_X1_ofMost (p0 : Int32) (p1 : Int32) (σ : PS) {v : Int32} {σ' : PS} (h : F_X1_ofMost p0 p1 σ = some (v, σ')) : PR 40 [.ref 10, .int p0, .int p1] σ (some (.int v)) σ' := by
  refine PR.enter (L := [some (.ref 10), some (.int p0), some (.int p1), none]) uT_40 uD_40 rfl rfl ?_
  unfold F_X1_ofMost at h
  refine RU.blk (C' := (2, [some (.ref 10), some (.int p0), some (.int p1), none], [.int p0, .ref 10], σ)) 2 rfl ?_
  obtain ⟨⟨v1, s1⟩, hk, h⟩ := Option.bind_eq_some_iff.mp h
  dsimp only at h
  refine RU.call (as := [.ref 10, .int p0]) (rest := []) (u := some (.int v1)) (C' := (5, [some (.ref 10), some (.int p0), some (.int p1), none], [.int v1], s1)) rfl rfl (m_X1_bestRow p0 σ hk) rfl rfl ?_
  refine RU.blk (C' := (bif cEq v1 (-9) then 17 else 12, [some (.ref 10), some (.int p0), some (.int p1), some (.int v1)], [], s1)) 4 rfl ?_
  rcases cnd_some h with ⟨hc, h⟩ | ⟨hc, h⟩
  · refine RU.tt hc ?_
    refine RU.blk (C' := (19, [some (.ref 10), some (.int p0), some (.int p1), some (.int v1)], [.int (-9)], s1)) 1 rfl ?_
    obtain ⟨rfl, rfl⟩ := ret_inj h
    exact RU.ret rfl rfl rfl
  · refine RU.ff hc ?_
    refine RU.blk (C' := (bif cLt p1 p0 then 20 else 17, [some (.ref 10), some (.int p0), some (.int p1), some (.int v1)], [], s1)) 3 rfl ?_
    rcases cnd_some h with ⟨hc, h⟩ | ⟨hc, h⟩
    · refine RU.tt hc ?_
      refine RU.blk (C' := (bif cGe p1 0 then 33 else 24, [some (.ref 10), some (.int p0), some (.int p1), some (.int v1)], [], s1)) 2 rfl ?_
      rcases cnd_some h with ⟨hc, h⟩ | ⟨hc, h⟩
      · refine RU.tt hc ?_
        refine RU.blk (C' := (36, [some (.ref 10), some (.int p0), some (.int p1), some (.int v1)], [.int p1, .int p0, .int v1], s1)) 3 rfl ?_
        obtain ⟨⟨v2, s2⟩, hk, h⟩ := Option.bind_eq_some_iff.mp h
        dsimp only at h
        refine RU.call (as := [.int v1, .int p0, .int p1]) (rest := []) (u := some (.int v2)) (C' := (39, [some (.ref 10), some (.int p0), some (.int p1), some (.int v1)], [.int v2], s2)) rfl rfl (m_X1_stepOfRow v1 p0 p1 s1 hk) rfl rfl ?_
        obtain ⟨rfl, rfl⟩ := ret_inj h
        exact RU.ret rfl rfl rfl
      · refine RU.ff hc ?_
        refine RU.blk (C' := (27, [some (.ref 10), some (.int p0), some (.int p1), some (.int v1)], [.int p0, .int v1, .ref 10], s1)) 3 rfl ?_
        obtain ⟨⟨v3, s3⟩, hk, h⟩ := Option.bind_eq_some_iff.mp h
        dsimp only at h
        refine RU.call (as := [.ref 10, .int v1, .int p0]) (rest := []) (u := some (.int v3)) (C' := (30, [some (.ref 10), some (.int p0), some (.int p1), some (.int v1)], [.int v3], s3)) rfl rfl (m_X1_gainOf v1 p0 s1 hk) rfl rfl ?_
        refine RU.blk (C' := (39, [some (.ref 10), some (.int p0), some (.int p1), some (.int v1)], [.int v3], s3)) 1 rfl ?_
        obtain ⟨rfl, rfl⟩ := ret_inj h
        exact RU.ret rfl rfl rfl
    · refine RU.ff hc ?_
      refine RU.blk (C' := (19, [some (.ref 10), some (.int p0), some (.int p1), some (.int v1)], [.int (-9)], s1)) 1 rfl ?_
      obtain ⟨rfl, rfl⟩ := ret_inj h
      exact RU.ret rfl rfl rfl
noncomputable def L_X1_cellsOfHeight  : Nat → Int32 → Int64 → Int32 → PS → Option (Int64 × PS)
  | 0, _, _, _, _ => none
  | n + 1, x1, y2, x4, σ => 
    (F_X1_cells σ).bind fun q1 =>
    let v1 := q1.1
    let s1 := q1.2
    bif cGe x4 v1 then (
      some (y2, s1)
    ) else (
      (F_X1_heightOf x4 s1).bind fun q2 =>
      let v2 := q2.1
      let s2 := q2.2
      bif cNe v2 x1 then (
        L_X1_cellsOfHeight n  x1 y2 (x4 + (1)) s2
      ) else (
        L_X1_cellsOfHeight n  x1 (y2 ||| (lshl 1 x4)) (x4 + (1)) s2
      )
    )
set_option maxRecDepth 50000 in
theorem ml_X1_cellsOfHeight  (n : Nat) : (∀ (x1 : Int32) (y2 : Int64) (x4 : Int32) (σ : PS) (v : Int64) (σ' : PS), L_X1_cellsOfHeight n x1 y2 x4 σ = some (v, σ') → RU ubX1_cellsOfHeight 2 42 (5, [some (.ref 10), some (.int x1), some (.long y2), none, some (.int x4)], [], σ) (some (.long v)) σ') := by
  induction n with
  | zero =>
    intro x1 y2 x4 σ v σ' h; exact absurd (show (none : Option (Int64 × PS)) = some (v, σ') from h) (by simp)
  | succ n ih =>
    intro x1 y2 x4 σ v σ' h
    rw [L_X1_cellsOfHeight] at h
    refine RU.blk (C' := (8, [some (.ref 10), some (.int x1), some (.long y2), none, some (.int x4)], [.ref 10, .int x4], σ)) 2 rfl ?_
    obtain ⟨⟨v1, s1⟩, hk, h⟩ := Option.bind_eq_some_iff.mp h
    dsimp only at h
    refine RU.call (as := [.ref 10]) (rest := [.int x4]) (u := some (.int v1)) (C' := (11, [some (.ref 10), some (.int x1), some (.long y2), none, some (.int x4)], [.int v1, .int x4], s1)) rfl rfl (m_X1_cells σ hk) rfl rfl ?_
    refine RU.blk (C' := (bif cGe x4 v1 then 37 else 14, [some (.ref 10), some (.int x1), some (.long y2), none, some (.int x4)], [], s1)) 1 rfl ?_
    rcases cnd_some h with ⟨hc, h⟩ | ⟨hc, h⟩
    · refine RU.tt hc ?_
      refine RU.blk (C' := (38, [some (.ref 10), some (.int x1), some (.long y2), none, some (.int x4)], [.long y2], s1)) 1 rfl ?_
      obtain ⟨rfl, rfl⟩ := ret_inj h
      exact RU.ret rfl rfl rfl
    · refine RU.ff hc ?_
      refine RU.blk (C' := (17, [some (.ref 10), some (.int x1), some (.long y2), none, some (.int x4)], [.int x4, .ref 10], s1)) 2 rfl ?_
      obtain ⟨⟨v2, s2⟩, hk, h⟩ := Option.bind_eq_some_iff.mp h
      dsimp only at h
      refine RU.call (as := [.ref 10, .int x4]) (rest := []) (u := some (.int v2)) (C' := (20, [some (.ref 10), some (.int x1), some (.long y2), none, some (.int x4)], [.int v2], s2)) rfl rfl (m_X1_heightOf x4 s1 hk) rfl rfl ?_
      refine RU.blk (C' := (bif cNe v2 x1 then 31 else 24, [some (.ref 10), some (.int x1), some (.long y2), none, some (.int x4)], [], s2)) 2 rfl ?_
      rcases cnd_some h with ⟨hc, h⟩ | ⟨hc, h⟩
      · refine RU.tt hc ?_
        refine RU.blk (C' := (5, [some (.ref 10), some (.int x1), some (.long y2), none, some (.int (x4 + (1)))], [], s2)) 2 rfl ?_
        exact ih x1 y2 (x4 + (1)) _ _ _ h
      · refine RU.ff hc ?_
        refine RU.blk (C' := (5, [some (.ref 10), some (.int x1), some (.long (y2 ||| (lshl 1 x4))), none, some (.int (x4 + (1)))], [], s2)) 8 rfl ?_
        exact ih x1 (y2 ||| (lshl 1 x4)) (x4 + (1)) _ _ _ h
noncomputable def F_X1_cellsOfHeight (p0 : Int32) (σ : PS) : Option (Int64 × PS) :=
  L_X1_cellsOfHeight fuelN  p0 0 (0) σ
set_option maxRecDepth 50000 in
theorem m_X1_cellsOfHeight (p0 : Int32) (σ : PS) {v : Int64} {σ' : PS} (h : F_X1_cellsOfHeight p0 σ = some (v, σ')) : PR 45 [.ref 10, .int p0] σ (some (.long v)) σ' := by
  refine PR.enter (L := [some (.ref 10), some (.int p0), none, none, none]) uT_45 uD_45 rfl rfl ?_
  unfold F_X1_cellsOfHeight at h
  refine RU.blk (C' := (5, [some (.ref 10), some (.int p0), some (.long 0), none, some (.int (0))], [], σ)) 4 rfl ?_
  exact (ml_X1_cellsOfHeight fuelN) p0 0 (0) _ _ _ h
noncomputable def L_X1_cellsOfColumn  : Nat → Int32 → Int64 → Int32 → PS → Option (Int64 × PS)
  | 0, _, _, _, _ => none
  | n + 1, x1, y2, x4, σ => 
    bif cGe x4 (gI σ 644) then (
      some (y2, σ)
    ) else (
      L_X1_cellsOfColumn n  x1 (y2 ||| (lshl 1 (x1 + ((gI σ 643) * x4)))) (x4 + (1)) σ
    )
set_option maxRecDepth 50000 in
theorem ml_X1_cellsOfColumn  (n : Nat) : (∀ (x1 : Int32) (y2 : Int64) (x4 : Int32) (σ : PS) (v : Int64) (σ' : PS), L_X1_cellsOfColumn n x1 y2 x4 σ = some (v, σ') → RU ubX1_cellsOfColumn 0 0 (5, [some (.ref 10), some (.int x1), some (.long y2), none, some (.int x4)], [], σ) (some (.long v)) σ') := by
  induction n with
  | zero =>
    intro x1 y2 x4 σ v σ' h; exact absurd (show (none : Option (Int64 × PS)) = some (v, σ') from h) (by simp)
  | succ n ih =>
    intro x1 y2 x4 σ v σ' h
    rw [L_X1_cellsOfColumn] at h
    refine RU.blk (C' := (bif cGe x4 (gI σ 644) then 34 else 14, [some (.ref 10), some (.int x1), some (.long y2), none, some (.int x4)], [], σ)) 4 rfl ?_
    rcases cnd_some h with ⟨hc, h⟩ | ⟨hc, h⟩
    · refine RU.tt hc ?_
      refine RU.blk (C' := (35, [some (.ref 10), some (.int x1), some (.long y2), none, some (.int x4)], [.long y2], σ)) 1 rfl ?_
      obtain ⟨rfl, rfl⟩ := ret_inj h
      exact RU.ret rfl rfl rfl
    · refine RU.ff hc ?_
      refine RU.blk (C' := (5, [some (.ref 10), some (.int x1), some (.long (y2 ||| (lshl 1 (x1 + ((gI σ 643) * x4))))), none, some (.int (x4 + (1)))], [], σ)) 13 rfl ?_
      exact ih x1 (y2 ||| (lshl 1 (x1 + ((gI σ 643) * x4)))) (x4 + (1)) _ _ _ h
noncomputable def F_X1_cellsOfColumn (p0 : Int32) (σ : PS) : Option (Int64 × PS) :=
  L_X1_cellsOfColumn fuelN  p0 0 (0) σ
set_option maxRecDepth 50000 in
theorem m_X1_cellsOfColumn (p0 : Int32) (σ : PS) {v : Int64} {σ' : PS} (h : F_X1_cellsOfColumn p0 σ = some (v, σ')) : PR 47 [.ref 10, .int p0] σ (some (.long v)) σ' := by
  refine PR.enter (L := [some (.ref 10), some (.int p0), none, none, none]) uT_47 uD_47 rfl rfl ?_
  unfold F_X1_cellsOfColumn at h
  refine RU.blk (C' := (5, [some (.ref 10), some (.int p0), some (.long 0), none, some (.int (0))], [], σ)) 4 rfl ?_
  exact (ml_X1_cellsOfColumn fuelN) p0 0 (0) _ _ _ h
noncomputable def F_X1_bordering (p0 : Int64) (σ : PS) : Option (Int64 × PS) :=
  (F_X1_cellsOfColumn ((gI σ 643) - (1)) σ).bind fun q1 =>
  let v1 := q1.1
  let s1 := q1.2
  (F_X1_cellsOfColumn (0) s1).bind fun q2 =>
  let v2 := q2.1
  let s2 := q2.2
  some (((((lshl p0 (gI s2 643)) ||| (lushr p0 (gI s2 643))) ||| (lshl (p0 &&& (v1 ^^^ (-1))) (1))) ||| (lushr (p0 &&& (v2 ^^^ (-1))) (1))), s2)
set_option maxRecDepth 50000 in
theorem m_X1_bordering (p0 : Int64) (σ : PS) {v : Int64} {σ' : PS} (h : F_X1_bordering p0 σ = some (v, σ')) : PR 46 [.ref 10, .long p0] σ (some (.long v)) σ' := by
  refine PR.enter (L := [some (.ref 10), some (.long p0), none, none, none, none, none]) uT_46 uD_46 rfl rfl ?_
  unfold F_X1_bordering at h
  refine RU.blk (C' := (8, [some (.ref 10), some (.long p0), none, none, none, none, none], [.int ((gI σ 643) - (1)), .ref 10, .long p0], σ)) 6 rfl ?_
  obtain ⟨⟨v1, s1⟩, hk, h⟩ := Option.bind_eq_some_iff.mp h
  dsimp only at h
  refine RU.call (as := [.ref 10, .int ((gI σ 643) - (1))]) (rest := [.long p0]) (u := some (.long v1)) (C' := (11, [some (.ref 10), some (.long p0), none, none, none, none, none], [.long v1, .long p0], s1)) rfl rfl (m_X1_cellsOfColumn ((gI σ 643) - (1)) σ hk) rfl rfl ?_
  refine RU.blk (C' := (20, [some (.ref 10), some (.long p0), none, some (.long (p0 &&& (v1 ^^^ (-1)))), none, none, none], [.int (0), .ref 10, .long p0], s1)) 7 rfl ?_
  obtain ⟨⟨v2, s2⟩, hk, h⟩ := Option.bind_eq_some_iff.mp h
  dsimp only at h
  refine RU.call (as := [.ref 10, .int (0)]) (rest := [.long p0]) (u := some (.long v2)) (C' := (23, [some (.ref 10), some (.long p0), none, some (.long (p0 &&& (v1 ^^^ (-1)))), none, none, none], [.long v2, .long p0], s2)) rfl rfl (m_X1_cellsOfColumn (0) s1 hk) rfl rfl ?_
  refine RU.blk (C' := (52, [some (.ref 10), some (.long p0), none, some (.long (p0 &&& (v1 ^^^ (-1)))), none, some (.long (p0 &&& (v2 ^^^ (-1)))), none], [.long ((((lshl p0 (gI s2 643)) ||| (lushr p0 (gI s2 643))) ||| (lshl (p0 &&& (v1 ^^^ (-1))) (1))) ||| (lushr (p0 &&& (v2 ^^^ (-1))) (1)))], s2)) 21 rfl ?_
  obtain ⟨rfl, rfl⟩ := ret_inj h
  exact RU.ret rfl rfl rfl
noncomputable def L_X1_flatWith  : Nat → Int64 → Int64 → Int32 → PS → Option (Int64 × PS)
  | 0, _, _, _, _ => none
  | n + 1, y2, y4, x6, σ => 
    (F_X1_cells σ).bind fun q1 =>
    let v1 := q1.1
    let s1 := q1.2
    bif cGe x6 v1 then (
      some (y4, s1)
    ) else (
      (F_X1_bordering y4 s1).bind fun q2 =>
      let v2 := q2.1
      let s2 := q2.2
      L_X1_flatWith n  y2 (y4 ||| (v2 &&& y2)) (x6 + (1)) s2
    )
set_option maxRecDepth 50000 in
theorem ml_X1_flatWith  (n : Nat) : (∀ (y2 : Int64) (y4 : Int64) (x6 : Int32) (u1 : Option Value) (σ : PS) (v : Int64) (σ' : PS), L_X1_flatWith n y2 y4 x6 σ = some (v, σ') → RU ubX1_flatWith 3 66 (18, [some (.ref 10), u1, some (.long y2), none, some (.long y4), none, some (.int x6)], [], σ) (some (.long v)) σ') := by
  induction n with
  | zero =>
    intro y2 y4 x6 u1 σ v σ' h; exact absurd (show (none : Option (Int64 × PS)) = some (v, σ') from h) (by simp)
  | succ n ih =>
    intro y2 y4 x6 u1 σ v σ' h
    rw [L_X1_flatWith] at h
    refine RU.blk (C' := (21, [some (.ref 10), none, some (.long y2), none, some (.long y4), none, some (.int x6)], [.ref 10, .int x6], σ)) 2 rfl ?_
    obtain ⟨⟨v1, s1⟩, hk, h⟩ := Option.bind_eq_some_iff.mp h
    dsimp only at h
    refine RU.call (as := [.ref 10]) (rest := [.int x6]) (u := some (.int v1)) (C' := (24, [some (.ref 10), none, some (.long y2), none, some (.long y4), none, some (.int x6)], [.int v1, .int x6], s1)) rfl rfl (m_X1_cells σ hk) rfl rfl ?_
    refine RU.blk (C' := (bif cGe x6 v1 then 46 else 27, [some (.ref 10), none, some (.long y2), none, some (.long y4), none, some (.int x6)], [], s1)) 1 rfl ?_
    rcases cnd_some h with ⟨hc, h⟩ | ⟨hc, h⟩
    · refine RU.tt hc ?_
      refine RU.blk (C' := (48, [some (.ref 10), none, some (.long y2), none, some (.long y4), none, some (.int x6)], [.long y4], s1)) 1 rfl ?_
      obtain ⟨rfl, rfl⟩ := ret_inj h
      exact RU.ret rfl rfl rfl
    · refine RU.ff hc ?_
      refine RU.blk (C' := (32, [some (.ref 10), none, some (.long y2), none, some (.long y4), none, some (.int x6)], [.long y4, .ref 10, .long y4], s1)) 3 rfl ?_
      obtain ⟨⟨v2, s2⟩, hk, h⟩ := Option.bind_eq_some_iff.mp h
      dsimp only at h
      refine RU.call (as := [.ref 10, .long y4]) (rest := [.long y4]) (u := some (.long v2)) (C' := (35, [some (.ref 10), none, some (.long y2), none, some (.long y4), none, some (.int x6)], [.long v2, .long y4], s2)) rfl rfl (m_X1_bordering y4 s1 hk) rfl rfl ?_
      refine RU.blk (C' := (18, [some (.ref 10), none, some (.long y2), none, some (.long (y4 ||| (v2 &&& y2))), none, some (.int (x6 + (1)))], [], s2)) 6 rfl ?_
      exact ih y2 (y4 ||| (v2 &&& y2)) (x6 + (1)) none _ _ _ h
noncomputable def F_X1_flatWith (p0 : Int32) (σ : PS) : Option (Int64 × PS) :=
  (F_X1_heightOf p0 σ).bind fun q3 =>
  let v3 := q3.1
  let s3 := q3.2
  (F_X1_cellsOfHeight v3 s3).bind fun q4 =>
  let v4 := q4.1
  let s4 := q4.2
  L_X1_flatWith fuelN  v4 (lshl 1 p0) (0) s4
set_option maxRecDepth 50000 in
theorem m_X1_flatWith (p0 : Int32) (σ : PS) {v : Int64} {σ' : PS} (h : F_X1_flatWith p0 σ = some (v, σ')) : PR 44 [.ref 10, .int p0] σ (some (.long v)) σ' := by
  refine PR.enter (L := [some (.ref 10), some (.int p0), none, none, none, none, none]) uT_44 uD_44 rfl rfl ?_
  unfold F_X1_flatWith at h
  refine RU.blk (C' := (3, [some (.ref 10), some (.int p0), none, none, none, none, none], [.int p0, .ref 10, .ref 10], σ)) 3 rfl ?_
  obtain ⟨⟨v3, s3⟩, hk, h⟩ := Option.bind_eq_some_iff.mp h
  dsimp only at h
  refine RU.call (as := [.ref 10, .int p0]) (rest := [.ref 10]) (u := some (.int v3)) (C' := (6, [some (.ref 10), some (.int p0), none, none, none, none, none], [.int v3, .ref 10], s3)) rfl rfl (m_X1_heightOf p0 σ hk) rfl rfl ?_
  obtain ⟨⟨v4, s4⟩, hk, h⟩ := Option.bind_eq_some_iff.mp h
  dsimp only at h
  refine RU.call (as := [.ref 10, .int v3]) (rest := []) (u := some (.long v4)) (C' := (9, [some (.ref 10), some (.int p0), none, none, none, none, none], [.long v4], s4)) rfl rfl (m_X1_cellsOfHeight v3 s3 hk) rfl rfl ?_
  refine RU.blk (C' := (18, [some (.ref 10), some (.int p0), some (.long v4), none, some (.long (lshl 1 p0)), none, some (.int (0))], [], s4)) 7 rfl ?_
  exact (ml_X1_flatWith fuelN) v4 (lshl 1 p0) (0) (some (.int p0)) _ _ _ h
noncomputable def L_X1_isToldAt (a1 : Nat) (N1 : Nat) : Nat → Int32 → Int32 → Int32 → PS → Option (Int32 × PS)
  | 0, _, _, _, _ => none
  | n + 1, x1, x3, x4, σ => 
    bif cGe x4 (gI σ 645) then (
      some ((1), σ)
    ) else (
      (F_X1_isGone x4 σ).bind fun q1 =>
      let v1 := q1.1
      let s1 := q1.2
      bif cNe v1 0 then (
        L_X1_isToldAt a1 N1 n  x1 x3 (x4 + (1)) s1
      ) else (
        (F_X1_toldOf x4 (x1 + x4) s1).bind fun q2 =>
        let v2 := q2.1
        let s2 := q2.2
        (F_X4_numberAt a1 N1 (x3 + x4) s2).bind fun q3 =>
        let v3 := q3.1
        let s3 := q3.2
        bif cEq v2 v3 then (
          L_X1_isToldAt a1 N1 n  x1 x3 (x4 + (1)) s3
        ) else (
          some ((0), s3)
        )
      )
    )
set_option maxRecDepth 50000 in
theorem ml_X1_isToldAt (a1 N1 : Nat) (ha1 : layT[a1]? = some (.inr (.inl N1))) (n : Nat) : (∀ (x1 : Int32) (x3 : Int32) (x4 : Int32) (σ : PS) (v : Int32) (σ' : PS), L_X1_isToldAt a1 N1 n x1 x3 x4 σ = some (v, σ') → RU ubX1_isToldAt 3 66 (3, [some (.ref 10), some (.int x1), some (.ref a1), some (.int x3), some (.int x4)], [], σ) (some (.int v)) σ') := by
  induction n with
  | zero =>
    intro x1 x3 x4 σ v σ' h; exact absurd (show (none : Option (Int32 × PS)) = some (v, σ') from h) (by simp)
  | succ n ih =>
    intro x1 x3 x4 σ v σ' h
    rw [L_X1_isToldAt] at h
    refine RU.blk (C' := (bif cGe x4 (gI σ 645) then 50 else 12, [some (.ref 10), some (.int x1), some (.ref a1), some (.int x3), some (.int x4)], [], σ)) 4 rfl ?_
    rcases cnd_some h with ⟨hc, h⟩ | ⟨hc, h⟩
    · refine RU.tt hc ?_
      refine RU.blk (C' := (51, [some (.ref 10), some (.int x1), some (.ref a1), some (.int x3), some (.int x4)], [.int (1)], σ)) 1 rfl ?_
      obtain ⟨rfl, rfl⟩ := ret_inj h
      exact RU.ret rfl rfl rfl
    · refine RU.ff hc ?_
      refine RU.blk (C' := (15, [some (.ref 10), some (.int x1), some (.ref a1), some (.int x3), some (.int x4)], [.int x4, .ref 10], σ)) 2 rfl ?_
      obtain ⟨⟨v1, s1⟩, hk, h⟩ := Option.bind_eq_some_iff.mp h
      dsimp only at h
      refine RU.call (as := [.ref 10, .int x4]) (rest := []) (u := some (.int v1)) (C' := (18, [some (.ref 10), some (.int x1), some (.ref a1), some (.int x3), some (.int x4)], [.int v1], s1)) rfl rfl (m_X1_isGone x4 σ hk) rfl rfl ?_
      refine RU.blk (C' := (bif cNe v1 0 then 44 else 21, [some (.ref 10), some (.int x1), some (.ref a1), some (.int x3), some (.int x4)], [], s1)) 1 rfl ?_
      rcases cnd_some h with ⟨hc, h⟩ | ⟨hc, h⟩
      · refine RU.tt hc ?_
        refine RU.blk (C' := (3, [some (.ref 10), some (.int x1), some (.ref a1), some (.int x3), some (.int (x4 + (1)))], [], s1)) 2 rfl ?_
        exact ih x1 x3 (x4 + (1)) _ _ _ h
      · refine RU.ff hc ?_
        refine RU.blk (C' := (28, [some (.ref 10), some (.int x1), some (.ref a1), some (.int x3), some (.int x4)], [.int (x1 + x4), .int x4, .ref 10], s1)) 5 rfl ?_
        obtain ⟨⟨v2, s2⟩, hk, h⟩ := Option.bind_eq_some_iff.mp h
        dsimp only at h
        refine RU.call (as := [.ref 10, .int x4, .int (x1 + x4)]) (rest := []) (u := some (.int v2)) (C' := (31, [some (.ref 10), some (.int x1), some (.ref a1), some (.int x3), some (.int x4)], [.int v2], s2)) rfl rfl (m_X1_toldOf x4 (x1 + x4) s1 hk) rfl rfl ?_
        refine RU.blk (C' := (36, [some (.ref 10), some (.int x1), some (.ref a1), some (.int x3), some (.int x4)], [.int (x3 + x4), .ref a1, .int v2], s2)) 4 rfl ?_
        obtain ⟨⟨v3, s3⟩, hk, h⟩ := Option.bind_eq_some_iff.mp h
        dsimp only at h
        refine RU.call (as := [.ref a1, .int (x3 + x4)]) (rest := [.int v2]) (u := some (.int v3)) (C' := (39, [some (.ref 10), some (.int x1), some (.ref a1), some (.int x3), some (.int x4)], [.int v3, .int v2], s3)) rfl rfl (m_X4_numberAt a1 N1 ha1 (x3 + x4) s2 hk) rfl rfl ?_
        refine RU.blk (C' := (bif cEq v2 v3 then 44 else 42, [some (.ref 10), some (.int x1), some (.ref a1), some (.int x3), some (.int x4)], [], s3)) 1 rfl ?_
        rcases cnd_some h with ⟨hc, h⟩ | ⟨hc, h⟩
        · refine RU.tt hc ?_
          refine RU.blk (C' := (3, [some (.ref 10), some (.int x1), some (.ref a1), some (.int x3), some (.int (x4 + (1)))], [], s3)) 2 rfl ?_
          exact ih x1 x3 (x4 + (1)) _ _ _ h
        · refine RU.ff hc ?_
          refine RU.blk (C' := (43, [some (.ref 10), some (.int x1), some (.ref a1), some (.int x3), some (.int x4)], [.int (0)], s3)) 1 rfl ?_
          obtain ⟨rfl, rfl⟩ := ret_inj h
          exact RU.ret rfl rfl rfl
noncomputable def F_X1_isToldAt (p0 : Int32) (a1 N1 : Nat) (p2 : Int32) (σ : PS) : Option (Int32 × PS) :=
  L_X1_isToldAt a1 N1 fuelN  p0 p2 (0) σ
set_option maxRecDepth 50000 in
theorem m_X1_isToldAt (p0 : Int32) (a1 N1 : Nat) (ha1 : layT[a1]? = some (.inr (.inl N1))) (p2 : Int32) (σ : PS) {v : Int32} {σ' : PS} (h : F_X1_isToldAt p0 a1 N1 p2 σ = some (v, σ')) : PR 50 [.ref 10, .int p0, .ref a1, .int p2] σ (some (.int v)) σ' := by
  refine PR.enter (L := [some (.ref 10), some (.int p0), some (.ref a1), some (.int p2), none]) uT_50 uD_50 rfl rfl ?_
  unfold F_X1_isToldAt at h
  refine RU.blk (C' := (3, [some (.ref 10), some (.int p0), some (.ref a1), some (.int p2), some (.int (0))], [], σ)) 2 rfl ?_
  exact (ml_X1_isToldAt a1 N1 ha1 fuelN) p0 p2 (0) _ _ _ h
noncomputable def L_X1_isToldFrom (a1 : Nat) (N1 : Nat) : Nat → Int32 → Int32 → Int32 → Int32 → PS → Option (Int32 × PS)
  | 0, _, _, _, _, _ => none
  | n + 1, x3, x4, x5, x6, σ => 
    bif cGe x6 x3 then (
      some ((1), σ)
    ) else (
      bif cLe x6 0 then (
        bif cEq x5 (-9) then (
          some ((0), σ)
        ) else (
          (F_X1_isToldAt x5 a1 N1 (x6 * (gI σ 645)) σ).bind fun q1 =>
          let v1 := q1.1
          let s1 := q1.2
          bif cNe v1 0 then (
            L_X1_isToldFrom a1 N1 n  x3 x4 x5 (x6 + (1)) s1
          ) else (
            some ((0), s1)
          )
        )
      ) else (
        (F_X1_nextPlace x5 x4 σ).bind fun q2 =>
        let v2 := q2.1
        let s2 := q2.2
        bif cEq v2 (-9) then (
          some ((0), s2)
        ) else (
          (F_X1_isToldAt v2 a1 N1 (x6 * (gI s2 645)) s2).bind fun q3 =>
          let v3 := q3.1
          let s3 := q3.2
          bif cNe v3 0 then (
            L_X1_isToldFrom a1 N1 n  x3 x4 v2 (x6 + (1)) s3
          ) else (
            some ((0), s3)
          )
        )
      )
    )
set_option maxRecDepth 50000 in
theorem ml_X1_isToldFrom (a1 N1 : Nat) (ha1 : layT[a1]? = some (.inr (.inl N1))) (n : Nat) : (∀ (x3 : Int32) (x4 : Int32) (x5 : Int32) (x6 : Int32) (u1 : Option Value) (σ : PS) (v : Int32) (σ' : PS), L_X1_isToldFrom a1 N1 n x3 x4 x5 x6 σ = some (v, σ') → RU ubX1_isToldFrom 4 90 (6, [some (.ref 10), u1, some (.ref a1), some (.int x3), some (.int x4), some (.int x5), some (.int x6)], [], σ) (some (.int v)) σ') := by
  induction n with
  | zero =>
    intro x3 x4 x5 x6 u1 σ v σ' h; exact absurd (show (none : Option (Int32 × PS)) = some (v, σ') from h) (by simp)
  | succ n ih =>
    intro x3 x4 x5 x6 u1 σ v σ' h
    rw [L_X1_isToldFrom] at h
    refine RU.blk (C' := (bif cGe x6 x3 then 59 else 12, [some (.ref 10), none, some (.ref a1), some (.int x3), some (.int x4), some (.int x5), some (.int x6)], [], σ)) 3 rfl ?_
    rcases cnd_some h with ⟨hc, h⟩ | ⟨hc, h⟩
    · refine RU.tt hc ?_
      refine RU.blk (C' := (60, [some (.ref 10), none, some (.ref a1), some (.int x3), some (.int x4), some (.int x5), some (.int x6)], [.int (1)], σ)) 1 rfl ?_
      obtain ⟨rfl, rfl⟩ := ret_inj h
      exact RU.ret rfl rfl rfl
    · refine RU.ff hc ?_
      refine RU.blk (C' := (bif cLe x6 0 then 27 else 17, [some (.ref 10), none, some (.ref a1), some (.int x3), some (.int x4), some (.int x5), some (.int x6)], [], σ)) 2 rfl ?_
      rcases cnd_some h with ⟨hc, h⟩ | ⟨hc, h⟩
      · refine RU.tt hc ?_
        refine RU.blk (C' := (bif cEq x5 (-9) then 51 else 34, [some (.ref 10), none, some (.ref a1), some (.int x3), some (.int x4), some (.int x5), some (.int x6)], [], σ)) 3 rfl ?_
        rcases cnd_some h with ⟨hc, h⟩ | ⟨hc, h⟩
        · refine RU.tt hc ?_
          refine RU.blk (C' := (52, [some (.ref 10), none, some (.ref a1), some (.int x3), some (.int x4), some (.int x5), some (.int x6)], [.int (0)], σ)) 1 rfl ?_
          obtain ⟨rfl, rfl⟩ := ret_inj h
          exact RU.ret rfl rfl rfl
        · refine RU.ff hc ?_
          refine RU.blk (C' := (45, [some (.ref 10), none, some (.ref a1), some (.int x3), some (.int x4), some (.int x5), some (.int x6)], [.int (x6 * (gI σ 645)), .ref a1, .int x5, .ref 10], σ)) 7 rfl ?_
          obtain ⟨⟨v1, s1⟩, hk, h⟩ := Option.bind_eq_some_iff.mp h
          dsimp only at h
          refine RU.call (as := [.ref 10, .int x5, .ref a1, .int (x6 * (gI σ 645))]) (rest := []) (u := some (.int v1)) (C' := (48, [some (.ref 10), none, some (.ref a1), some (.int x3), some (.int x4), some (.int x5), some (.int x6)], [.int v1], s1)) rfl rfl (m_X1_isToldAt x5 a1 N1 ha1 (x6 * (gI σ 645)) σ hk) rfl rfl ?_
          refine RU.blk (C' := (bif cNe v1 0 then 53 else 51, [some (.ref 10), none, some (.ref a1), some (.int x3), some (.int x4), some (.int x5), some (.int x6)], [], s1)) 1 rfl ?_
          rcases cnd_some h with ⟨hc, h⟩ | ⟨hc, h⟩
          · refine RU.tt hc ?_
            refine RU.blk (C' := (6, [some (.ref 10), none, some (.ref a1), some (.int x3), some (.int x4), some (.int x5), some (.int (x6 + (1)))], [], s1)) 2 rfl ?_
            exact ih x3 x4 x5 (x6 + (1)) none _ _ _ h
          · refine RU.ff hc ?_
            refine RU.blk (C' := (52, [some (.ref 10), none, some (.ref a1), some (.int x3), some (.int x4), some (.int x5), some (.int x6)], [.int (0)], s1)) 1 rfl ?_
            obtain ⟨rfl, rfl⟩ := ret_inj h
            exact RU.ret rfl rfl rfl
      · refine RU.ff hc ?_
        refine RU.blk (C' := (22, [some (.ref 10), none, some (.ref a1), some (.int x3), some (.int x4), some (.int x5), some (.int x6)], [.int x4, .int x5, .ref 10], σ)) 3 rfl ?_
        obtain ⟨⟨v2, s2⟩, hk, h⟩ := Option.bind_eq_some_iff.mp h
        dsimp only at h
        refine RU.call (as := [.ref 10, .int x5, .int x4]) (rest := []) (u := some (.int v2)) (C' := (25, [some (.ref 10), none, some (.ref a1), some (.int x3), some (.int x4), some (.int x5), some (.int x6)], [.int v2], s2)) rfl rfl (m_X1_nextPlace x5 x4 σ hk) rfl rfl ?_
        refine RU.blk (C' := (bif cEq v2 (-9) then 51 else 34, [some (.ref 10), none, some (.ref a1), some (.int x3), some (.int x4), some (.int v2), some (.int x6)], [], s2)) 4 rfl ?_
        rcases cnd_some h with ⟨hc, h⟩ | ⟨hc, h⟩
        · refine RU.tt hc ?_
          refine RU.blk (C' := (52, [some (.ref 10), none, some (.ref a1), some (.int x3), some (.int x4), some (.int v2), some (.int x6)], [.int (0)], s2)) 1 rfl ?_
          obtain ⟨rfl, rfl⟩ := ret_inj h
          exact RU.ret rfl rfl rfl
        · refine RU.ff hc ?_
          refine RU.blk (C' := (45, [some (.ref 10), none, some (.ref a1), some (.int x3), some (.int x4), some (.int v2), some (.int x6)], [.int (x6 * (gI s2 645)), .ref a1, .int v2, .ref 10], s2)) 7 rfl ?_
          obtain ⟨⟨v3, s3⟩, hk, h⟩ := Option.bind_eq_some_iff.mp h
          dsimp only at h
          refine RU.call (as := [.ref 10, .int v2, .ref a1, .int (x6 * (gI s2 645))]) (rest := []) (u := some (.int v3)) (C' := (48, [some (.ref 10), none, some (.ref a1), some (.int x3), some (.int x4), some (.int v2), some (.int x6)], [.int v3], s3)) rfl rfl (m_X1_isToldAt v2 a1 N1 ha1 (x6 * (gI s2 645)) s2 hk) rfl rfl ?_
          refine RU.blk (C' := (bif cNe v3 0 then 53 else 51, [some (.ref 10), none, some (.ref a1), some (.int x3), some (.int x4), some (.int v2), some (.int x6)], [], s3)) 1 rfl ?_
          rcases cnd_some h with ⟨hc, h⟩ | ⟨hc, h⟩
          · refine RU.tt hc ?_
            refine RU.blk (C' := (6, [some (.ref 10), none, some (.ref a1), some (.int x3), some (.int x4), some (.int v2), some (.int (x6 + (1)))], [], s3)) 2 rfl ?_
            exact ih x3 x4 v2 (x6 + (1)) none _ _ _ h
          · refine RU.ff hc ?_
            refine RU.blk (C' := (52, [some (.ref 10), none, some (.ref a1), some (.int x3), some (.int x4), some (.int v2), some (.int x6)], [.int (0)], s3)) 1 rfl ?_
            obtain ⟨rfl, rfl⟩ := ret_inj h
            exact RU.ret rfl rfl rfl
noncomputable def F_X1_isToldFrom (p0 : Int32) (a1 N1 : Nat) (p2 : Int32) (p3 : Int32) (σ : PS) : Option (Int32 × PS) :=
  L_X1_isToldFrom a1 N1 fuelN  p2 p3 p0 (0) σ
set_option maxRecDepth 50000 in
theorem m_X1_isToldFrom (p0 : Int32) (a1 N1 : Nat) (ha1 : layT[a1]? = some (.inr (.inl N1))) (p2 : Int32) (p3 : Int32) (σ : PS) {v : Int32} {σ' : PS} (h : F_X1_isToldFrom p0 a1 N1 p2 p3 σ = some (v, σ')) : PR 49 [.ref 10, .int p0, .ref a1, .int p2, .int p3] σ (some (.int v)) σ' := by
  refine PR.enter (L := [some (.ref 10), some (.int p0), some (.ref a1), some (.int p2), some (.int p3), none, none]) uT_49 uD_49 rfl rfl ?_
  unfold F_X1_isToldFrom at h
  refine RU.blk (C' := (6, [some (.ref 10), some (.int p0), some (.ref a1), some (.int p2), some (.int p3), some (.int p0), some (.int (0))], [], σ)) 4 rfl ?_
  exact (ml_X1_isToldFrom a1 N1 ha1 fuelN) p2 p3 p0 (0) (some (.int p0)) _ _ _ h
noncomputable def L_X1_ofBegins (a0 : Nat) (N0 : Nat) : Nat → Int32 → Int32 → Int32 → Int32 → Int32 → Int32 → Int32 → PS → Option (Int32 × PS)
  | 0, _, _, _, _, _, _, _, _ => none
  | n + 1, x2, x3, x4, x5, x6, x7, x8, σ => 
    (F_X1_cells σ).bind fun q1 =>
    let v1 := q1.1
    let s1 := q1.2
    bif cGe x8 v1 then (
      bif cNe x4 0 then (
        bif cNe x4 (1) then (
          some (x7, s1)
        ) else (
          some (x6, s1)
        )
      ) else (
        some (x5, s1)
      )
    ) else (
      (F_X1_isPlace x8 s1).bind fun q2 =>
      let v2 := q2.1
      let s2 := q2.2
      bif cEq v2 0 then (
        L_X1_ofBegins a0 N0 n  x2 x3 x4 x5 x6 x7 (x8 + (1)) s2
      ) else (
        (F_X1_isToldFrom x8 a0 N0 x2 x3 s2).bind fun q3 =>
        let v3 := q3.1
        let s3 := q3.2
        bif cNe v3 0 then (
          bif cNe x5 0 then (
            L_X1_ofBegins a0 N0 n  x2 x3 x4 (x5 + (1)) x6 x8 (x8 + (1)) s3
          ) else (
            L_X1_ofBegins a0 N0 n  x2 x3 x4 (x5 + (1)) x8 x8 (x8 + (1)) s3
          )
        ) else (
          L_X1_ofBegins a0 N0 n  x2 x3 x4 x5 x6 x7 (x8 + (1)) s3
        )
      )
    )
set_option maxRecDepth 50000 in
theorem ml_X1_ofBegins (a0 N0 : Nat) (ha0 : layT[a0]? = some (.inr (.inl N0))) (n : Nat) : (∀ (x2 : Int32) (x3 : Int32) (x4 : Int32) (x5 : Int32) (x6 : Int32) (x7 : Int32) (x8 : Int32) (σ : PS) (v : Int32) (σ' : PS), L_X1_ofBegins a0 N0 n x2 x3 x4 x5 x6 x7 x8 σ = some (v, σ') → RU ubX1_ofBegins 5 116 (14, [some (.ref 10), some (.ref a0), some (.int x2), some (.int x3), some (.int x4), some (.int x5), some (.int x6), some (.int x7), some (.int x8)], [], σ) (some (.int v)) σ') := by
  induction n with
  | zero =>
    intro x2 x3 x4 x5 x6 x7 x8 σ v σ' h; exact absurd (show (none : Option (Int32 × PS)) = some (v, σ') from h) (by simp)
  | succ n ih =>
    intro x2 x3 x4 x5 x6 x7 x8 σ v σ' h
    rw [L_X1_ofBegins] at h
    refine RU.blk (C' := (17, [some (.ref 10), some (.ref a0), some (.int x2), some (.int x3), some (.int x4), some (.int x5), some (.int x6), some (.int x7), some (.int x8)], [.ref 10, .int x8], σ)) 2 rfl ?_
    obtain ⟨⟨v1, s1⟩, hk, h⟩ := Option.bind_eq_some_iff.mp h
    dsimp only at h
    refine RU.call (as := [.ref 10]) (rest := [.int x8]) (u := some (.int v1)) (C' := (20, [some (.ref 10), some (.ref a0), some (.int x2), some (.int x3), some (.int x4), some (.int x5), some (.int x6), some (.int x7), some (.int x8)], [.int v1, .int x8], s1)) rfl rfl (m_X1_cells σ hk) rfl rfl ?_
    refine RU.blk (C' := (bif cGe x8 v1 then 69 else 23, [some (.ref 10), some (.ref a0), some (.int x2), some (.int x3), some (.int x4), some (.int x5), some (.int x6), some (.int x7), some (.int x8)], [], s1)) 1 rfl ?_
    rcases cnd_some h with ⟨hc, h⟩ | ⟨hc, h⟩
    · refine RU.tt hc ?_
      refine RU.blk (C' := (bif cNe x4 0 then 77 else 74, [some (.ref 10), some (.ref a0), some (.int x2), some (.int x3), some (.int x4), some (.int x5), some (.int x6), some (.int x7), some (.int x8)], [], s1)) 2 rfl ?_
      rcases cnd_some h with ⟨hc, h⟩ | ⟨hc, h⟩
      · refine RU.tt hc ?_
        refine RU.blk (C' := (bif cNe x4 (1) then 88 else 83, [some (.ref 10), some (.ref a0), some (.int x2), some (.int x3), some (.int x4), some (.int x5), some (.int x6), some (.int x7), some (.int x8)], [], s1)) 3 rfl ?_
        rcases cnd_some h with ⟨hc, h⟩ | ⟨hc, h⟩
        · refine RU.tt hc ?_
          refine RU.blk (C' := (90, [some (.ref 10), some (.ref a0), some (.int x2), some (.int x3), some (.int x4), some (.int x5), some (.int x6), some (.int x7), some (.int x8)], [.int x7], s1)) 1 rfl ?_
          obtain ⟨rfl, rfl⟩ := ret_inj h
          exact RU.ret rfl rfl rfl
        · refine RU.ff hc ?_
          refine RU.blk (C' := (90, [some (.ref 10), some (.ref a0), some (.int x2), some (.int x3), some (.int x4), some (.int x5), some (.int x6), some (.int x7), some (.int x8)], [.int x6], s1)) 2 rfl ?_
          obtain ⟨rfl, rfl⟩ := ret_inj h
          exact RU.ret rfl rfl rfl
      · refine RU.ff hc ?_
        refine RU.blk (C' := (76, [some (.ref 10), some (.ref a0), some (.int x2), some (.int x3), some (.int x4), some (.int x5), some (.int x6), some (.int x7), some (.int x8)], [.int x5], s1)) 1 rfl ?_
        obtain ⟨rfl, rfl⟩ := ret_inj h
        exact RU.ret rfl rfl rfl
    · refine RU.ff hc ?_
      refine RU.blk (C' := (26, [some (.ref 10), some (.ref a0), some (.int x2), some (.int x3), some (.int x4), some (.int x5), some (.int x6), some (.int x7), some (.int x8)], [.int x8, .ref 10], s1)) 2 rfl ?_
      obtain ⟨⟨v2, s2⟩, hk, h⟩ := Option.bind_eq_some_iff.mp h
      dsimp only at h
      refine RU.call (as := [.ref 10, .int x8]) (rest := []) (u := some (.int v2)) (C' := (29, [some (.ref 10), some (.ref a0), some (.int x2), some (.int x3), some (.int x4), some (.int x5), some (.int x6), some (.int x7), some (.int x8)], [.int v2], s2)) rfl rfl (m_X1_isPlace x8 s1 hk) rfl rfl ?_
      refine RU.blk (C' := (bif cEq v2 0 then 63 else 32, [some (.ref 10), some (.ref a0), some (.int x2), some (.int x3), some (.int x4), some (.int x5), some (.int x6), some (.int x7), some (.int x8)], [], s2)) 1 rfl ?_
      rcases cnd_some h with ⟨hc, h⟩ | ⟨hc, h⟩
      · refine RU.tt hc ?_
        refine RU.blk (C' := (14, [some (.ref 10), some (.ref a0), some (.int x2), some (.int x3), some (.int x4), some (.int x5), some (.int x6), some (.int x7), some (.int (x8 + (1)))], [], s2)) 2 rfl ?_
        exact ih x2 x3 x4 x5 x6 x7 (x8 + (1)) _ _ _ h
      · refine RU.ff hc ?_
        refine RU.blk (C' := (38, [some (.ref 10), some (.ref a0), some (.int x2), some (.int x3), some (.int x4), some (.int x5), some (.int x6), some (.int x7), some (.int x8)], [.int x3, .int x2, .ref a0, .int x8, .ref 10], s2)) 5 rfl ?_
        obtain ⟨⟨v3, s3⟩, hk, h⟩ := Option.bind_eq_some_iff.mp h
        dsimp only at h
        refine RU.call (as := [.ref 10, .int x8, .ref a0, .int x2, .int x3]) (rest := []) (u := some (.int v3)) (C' := (41, [some (.ref 10), some (.ref a0), some (.int x2), some (.int x3), some (.int x4), some (.int x5), some (.int x6), some (.int x7), some (.int x8)], [.int v3], s3)) rfl rfl (m_X1_isToldFrom x8 a0 N0 ha0 x2 x3 s2 hk) rfl rfl ?_
        refine RU.blk (C' := (bif cNe v3 0 then 47 else 44, [some (.ref 10), some (.ref a0), some (.int x2), some (.int x3), some (.int x4), some (.int x5), some (.int x6), some (.int x7), some (.int x8)], [], s3)) 1 rfl ?_
        rcases cnd_some h with ⟨hc, h⟩ | ⟨hc, h⟩
        · refine RU.tt hc ?_
          refine RU.blk (C' := (bif cNe x5 0 then 56 else 52, [some (.ref 10), some (.ref a0), some (.int x2), some (.int x3), some (.int x4), some (.int x5), some (.int x6), some (.int x7), some (.int x8)], [], s3)) 2 rfl ?_
          rcases cnd_some h with ⟨hc, h⟩ | ⟨hc, h⟩
          · refine RU.tt hc ?_
            refine RU.blk (C' := (14, [some (.ref 10), some (.ref a0), some (.int x2), some (.int x3), some (.int x4), some (.int (x5 + (1))), some (.int x6), some (.int x8), some (.int (x8 + (1)))], [], s3)) 5 rfl ?_
            exact ih x2 x3 x4 (x5 + (1)) x6 x8 (x8 + (1)) _ _ _ h
          · refine RU.ff hc ?_
            refine RU.blk (C' := (14, [some (.ref 10), some (.ref a0), some (.int x2), some (.int x3), some (.int x4), some (.int (x5 + (1))), some (.int x8), some (.int x8), some (.int (x8 + (1)))], [], s3)) 7 rfl ?_
            exact ih x2 x3 x4 (x5 + (1)) x8 x8 (x8 + (1)) _ _ _ h
        · refine RU.ff hc ?_
          refine RU.blk (C' := (14, [some (.ref 10), some (.ref a0), some (.int x2), some (.int x3), some (.int x4), some (.int x5), some (.int x6), some (.int x7), some (.int (x8 + (1)))], [], s3)) 3 rfl ?_
          exact ih x2 x3 x4 x5 x6 x7 (x8 + (1)) _ _ _ h
noncomputable def F_X1_ofBegins (a0 N0 : Nat) (p1 : Int32) (p2 : Int32) (p3 : Int32) (σ : PS) : Option (Int32 × PS) :=
  L_X1_ofBegins a0 N0 fuelN  p1 p2 p3 (0) (-9) (-9) (0) σ
set_option maxRecDepth 50000 in
theorem m_X1_ofBegins (a0 N0 : Nat) (ha0 : layT[a0]? = some (.inr (.inl N0))) (p1 : Int32) (p2 : Int32) (p3 : Int32) (σ : PS) {v : Int32} {σ' : PS} (h : F_X1_ofBegins a0 N0 p1 p2 p3 σ = some (v, σ')) : PR 48 [.ref 10, .ref a0, .int p1, .int p2, .int p3] σ (some (.int v)) σ' := by
  refine PR.enter (L := [some (.ref 10), some (.ref a0), some (.int p1), some (.int p2), some (.int p3), none, none, none, none]) uT_48 uD_48 rfl rfl ?_
  unfold F_X1_ofBegins at h
  refine RU.blk (C' := (14, [some (.ref 10), some (.ref a0), some (.int p1), some (.int p2), some (.int p3), some (.int (0)), some (.int (-9)), some (.int (-9)), some (.int (0))], [], σ)) 8 rfl ?_
  exact (ml_X1_ofBegins a0 N0 ha0 fuelN) p1 p2 p3 (0) (-9) (-9) (0) _ _ _ h
noncomputable def F_X1_places  (σ : PS) : Option (Int32 × PS) :=
  some (((((gI σ 643) - (gI σ 645)) + (1)) * (gI σ 644)), σ)
set_option maxRecDepth 50000 in
theorem m_X1_places  (σ : PS) {v : Int32} {σ' : PS} (h : F_X1_places σ = some (v, σ')) : PR 51 [.ref 10] σ (some (.int v)) σ' := by
  refine PR.enter (L := [some (.ref 10)]) uT_51 uD_51 rfl rfl ?_
  unfold F_X1_places at h
  refine RU.blk (C' := (16, [some (.ref 10)], [.int ((((gI σ 643) - (gI σ 645)) + (1)) * (gI σ 644))], σ)) 10 rfl ?_
  obtain ⟨rfl, rfl⟩ := ret_inj h
  exact RU.ret rfl rfl rfl
noncomputable def L_X1_placesWhereTold  : Nat → Int32 → Int32 → Int32 → Int32 → PS → Option (Int32 × PS)
  | 0, _, _, _, _, _ => none
  | n + 1, x1, x2, x3, x4, σ => 
    (F_X1_cells σ).bind fun q1 =>
    let v1 := q1.1
    let s1 := q1.2
    bif cGe x4 v1 then (
      some (x3, s1)
    ) else (
      (F_X1_isPlace x4 s1).bind fun q2 =>
      let v2 := q2.1
      let s2 := q2.2
      bif cEq v2 0 then (
        L_X1_placesWhereTold n  x1 x2 x3 (x4 + (1)) s2
      ) else (
        (F_X1_toldOf x1 (x4 + x1) s2).bind fun q3 =>
        let v3 := q3.1
        let s3 := q3.2
        bif cLt v3 x2 then (
          L_X1_placesWhereTold n  x1 x2 x3 (x4 + (1)) s3
        ) else (
          L_X1_placesWhereTold n  x1 x2 (x3 + (1)) (x4 + (1)) s3
        )
      )
    )
set_option maxRecDepth 50000 in
theorem ml_X1_placesWhereTold  (n : Nat) : (∀ (x1 : Int32) (x2 : Int32) (x3 : Int32) (x4 : Int32) (σ : PS) (v : Int32) (σ' : PS), L_X1_placesWhereTold n x1 x2 x3 x4 σ = some (v, σ') → RU ubX1_placesWhereTold 3 66 (5, [some (.ref 10), some (.int x1), some (.int x2), some (.int x3), some (.int x4)], [], σ) (some (.int v)) σ') := by
  induction n with
  | zero =>
    intro x1 x2 x3 x4 σ v σ' h; exact absurd (show (none : Option (Int32 × PS)) = some (v, σ') from h) (by simp)
  | succ n ih =>
    intro x1 x2 x3 x4 σ v σ' h
    rw [L_X1_placesWhereTold] at h
    refine RU.blk (C' := (8, [some (.ref 10), some (.int x1), some (.int x2), some (.int x3), some (.int x4)], [.ref 10, .int x4], σ)) 2 rfl ?_
    obtain ⟨⟨v1, s1⟩, hk, h⟩ := Option.bind_eq_some_iff.mp h
    dsimp only at h
    refine RU.call (as := [.ref 10]) (rest := [.int x4]) (u := some (.int v1)) (C' := (11, [some (.ref 10), some (.int x1), some (.int x2), some (.int x3), some (.int x4)], [.int v1, .int x4], s1)) rfl rfl (m_X1_cells σ hk) rfl rfl ?_
    refine RU.blk (C' := (bif cGe x4 v1 then 45 else 14, [some (.ref 10), some (.int x1), some (.int x2), some (.int x3), some (.int x4)], [], s1)) 1 rfl ?_
    rcases cnd_some h with ⟨hc, h⟩ | ⟨hc, h⟩
    · refine RU.tt hc ?_
      refine RU.blk (C' := (46, [some (.ref 10), some (.int x1), some (.int x2), some (.int x3), some (.int x4)], [.int x3], s1)) 1 rfl ?_
      obtain ⟨rfl, rfl⟩ := ret_inj h
      exact RU.ret rfl rfl rfl
    · refine RU.ff hc ?_
      refine RU.blk (C' := (17, [some (.ref 10), some (.int x1), some (.int x2), some (.int x3), some (.int x4)], [.int x4, .ref 10], s1)) 2 rfl ?_
      obtain ⟨⟨v2, s2⟩, hk, h⟩ := Option.bind_eq_some_iff.mp h
      dsimp only at h
      refine RU.call (as := [.ref 10, .int x4]) (rest := []) (u := some (.int v2)) (C' := (20, [some (.ref 10), some (.int x1), some (.int x2), some (.int x3), some (.int x4)], [.int v2], s2)) rfl rfl (m_X1_isPlace x4 s1 hk) rfl rfl ?_
      refine RU.blk (C' := (bif cEq v2 0 then 39 else 23, [some (.ref 10), some (.int x1), some (.int x2), some (.int x3), some (.int x4)], [], s2)) 1 rfl ?_
      rcases cnd_some h with ⟨hc, h⟩ | ⟨hc, h⟩
      · refine RU.tt hc ?_
        refine RU.blk (C' := (5, [some (.ref 10), some (.int x1), some (.int x2), some (.int x3), some (.int (x4 + (1)))], [], s2)) 2 rfl ?_
        exact ih x1 x2 x3 (x4 + (1)) _ _ _ h
      · refine RU.ff hc ?_
        refine RU.blk (C' := (29, [some (.ref 10), some (.int x1), some (.int x2), some (.int x3), some (.int x4)], [.int (x4 + x1), .int x1, .ref 10], s2)) 5 rfl ?_
        obtain ⟨⟨v3, s3⟩, hk, h⟩ := Option.bind_eq_some_iff.mp h
        dsimp only at h
        refine RU.call (as := [.ref 10, .int x1, .int (x4 + x1)]) (rest := []) (u := some (.int v3)) (C' := (32, [some (.ref 10), some (.int x1), some (.int x2), some (.int x3), some (.int x4)], [.int v3], s3)) rfl rfl (m_X1_toldOf x1 (x4 + x1) s2 hk) rfl rfl ?_
        refine RU.blk (C' := (bif cLt v3 x2 then 39 else 36, [some (.ref 10), some (.int x1), some (.int x2), some (.int x3), some (.int x4)], [], s3)) 2 rfl ?_
        rcases cnd_some h with ⟨hc, h⟩ | ⟨hc, h⟩
        · refine RU.tt hc ?_
          refine RU.blk (C' := (5, [some (.ref 10), some (.int x1), some (.int x2), some (.int x3), some (.int (x4 + (1)))], [], s3)) 2 rfl ?_
          exact ih x1 x2 x3 (x4 + (1)) _ _ _ h
        · refine RU.ff hc ?_
          refine RU.blk (C' := (5, [some (.ref 10), some (.int x1), some (.int x2), some (.int (x3 + (1))), some (.int (x4 + (1)))], [], s3)) 3 rfl ?_
          exact ih x1 x2 (x3 + (1)) (x4 + (1)) _ _ _ h
noncomputable def F_X1_placesWhereTold (p0 : Int32) (p1 : Int32) (σ : PS) : Option (Int32 × PS) :=
  L_X1_placesWhereTold fuelN  p0 p1 (0) (0) σ
set_option maxRecDepth 50000 in
theorem m_X1_placesWhereTold (p0 : Int32) (p1 : Int32) (σ : PS) {v : Int32} {σ' : PS} (h : F_X1_placesWhereTold p0 p1 σ = some (v, σ')) : PR 52 [.ref 10, .int p0, .int p1] σ (some (.int v)) σ' := by
  refine PR.enter (L := [some (.ref 10), some (.int p0), some (.int p1), none, none]) uT_52 uD_52 rfl rfl ?_
  unfold F_X1_placesWhereTold at h
  refine RU.blk (C' := (5, [some (.ref 10), some (.int p0), some (.int p1), some (.int (0)), some (.int (0))], [], σ)) 4 rfl ?_
  exact (ml_X1_placesWhereTold fuelN) p0 p1 (0) (0) _ _ _ h
noncomputable def F_X2_codeAt (a0 N0 : Nat) (p1 : Int32) (p2 : Int32) (σ : PS) : Option (Int32 × PS) :=
  bif cGe p2 p1 then (
    some ((-1), σ)
  ) else (
    (F_X4_numberAt a0 N0 p2 σ).bind fun q1 =>
    let v1 := q1.1
    let s1 := q1.2
    some (v1, s1)
  )
set_option maxRecDepth 50000 in
theorem m_X2_codeAt (a0 N0 : Nat) (ha0 : layT[a0]? = some (.inr (.inl N0))) (p1 : Int32) (p2 : Int32) (σ : PS) {v : Int32} {σ' : PS} (h : F_X2_codeAt a0 N0 p1 p2 σ = some (v, σ')) : PR 56 [.ref a0, .int p1, .int p2] σ (some (.int v)) σ' := by
  refine PR.enter (L := [some (.ref a0), some (.int p1), some (.int p2)]) uT_56 uD_56 rfl rfl ?_
  unfold F_X2_codeAt at h
  refine RU.blk (C' := (bif cGe p2 p1 then 13 else 5, [some (.ref a0), some (.int p1), some (.int p2)], [], σ)) 3 rfl ?_
  rcases cnd_some h with ⟨hc, h⟩ | ⟨hc, h⟩
  · refine RU.tt hc ?_
    refine RU.blk (C' := (14, [some (.ref a0), some (.int p1), some (.int p2)], [.int (-1)], σ)) 1 rfl ?_
    obtain ⟨rfl, rfl⟩ := ret_inj h
    exact RU.ret rfl rfl rfl
  · refine RU.ff hc ?_
    refine RU.blk (C' := (7, [some (.ref a0), some (.int p1), some (.int p2)], [.int p2, .ref a0], σ)) 2 rfl ?_
    obtain ⟨⟨v1, s1⟩, hk, h⟩ := Option.bind_eq_some_iff.mp h
    dsimp only at h
    refine RU.call (as := [.ref a0, .int p2]) (rest := []) (u := some (.int v1)) (C' := (10, [some (.ref a0), some (.int p1), some (.int p2)], [.int v1], s1)) rfl rfl (m_X4_numberAt a0 N0 ha0 p2 σ hk) rfl rfl ?_
    refine RU.blk (C' := (14, [some (.ref a0), some (.int p1), some (.int p2)], [.int v1], s1)) 1 rfl ?_
    obtain ⟨rfl, rfl⟩ := ret_inj h
    exact RU.ret rfl rfl rfl
noncomputable def F_X2_faultInTail (a0 N0 : Nat) (p1 : Int32) (p2 : Int32) (p3 : Int32) (σ : PS) : Option (Int32 × PS) :=
  (F_X2_codeAt a0 N0 p1 (p2 + (1)) σ).bind fun q1 =>
  let v1 := q1.1
  let s1 := q1.2
  (F_X2_digitOf v1 s1).bind fun q2 =>
  let v2 := q2.1
  let s2 := q2.2
  bif cLt v2 0 then (
    some ((p2 + (1)), s2)
  ) else (
    (F_X4_numberAt a0 N0 (1) s2).bind fun q3 =>
    let v3 := q3.1
    let s3 := q3.2
    (F_X2_digitOf v3 s3).bind fun q4 =>
    let v4 := q4.1
    let s4 := q4.2
    bif cLe (v2 + p3) v4 then (
      (F_X2_codeAt a0 N0 p1 (p2 + (2)) s4).bind fun q5 =>
      let v5 := q5.1
      let s5 := q5.2
      (F_X2_digitOf v5 s5).bind fun q6 =>
      let v6 := q6.1
      let s6 := q6.2
      bif cLt v6 0 then (
        some ((p2 + (2)), s6)
      ) else (
        (F_X4_numberAt a0 N0 (2) s6).bind fun q7 =>
        let v7 := q7.1
        let s7 := q7.2
        (F_X2_digitOf v7 s7).bind fun q8 =>
        let v8 := q8.1
        let s8 := q8.2
        bif cLt v6 v8 then (
          bif cNe (p2 + (3)) p1 then (
            some ((p2 + (3)), s8)
          ) else (
            some ((-1), s8)
          )
        ) else (
          some ((p2 + (2)), s8)
        )
      )
    ) else (
      some ((p2 + (1)), s4)
    )
  )
set_option maxRecDepth 50000 in
theorem m_X2_faultInTail (a0 N0 : Nat) (ha0 : layT[a0]? = some (.inr (.inl N0))) (p1 : Int32) (p2 : Int32) (p3 : Int32) (σ : PS) {v : Int32} {σ' : PS} (h : F_X2_faultInTail a0 N0 p1 p2 p3 σ = some (v, σ')) : PR 55 [.ref a0, .int p1, .int p2, .int p3] σ (some (.int v)) σ' := by
  refine PR.enter (L := [some (.ref a0), some (.int p1), some (.int p2), some (.int p3), none, none]) uT_55 uD_55 rfl rfl ?_
  unfold F_X2_faultInTail at h
  refine RU.blk (C' := (5, [some (.ref a0), some (.int p1), some (.int p2), some (.int p3), none, none], [.int (p2 + (1)), .int p1, .ref a0], σ)) 5 rfl ?_
  obtain ⟨⟨v1, s1⟩, hk, h⟩ := Option.bind_eq_some_iff.mp h
  dsimp only at h
  refine RU.call (as := [.ref a0, .int p1, .int (p2 + (1))]) (rest := []) (u := some (.int v1)) (C' := (8, [some (.ref a0), some (.int p1), some (.int p2), some (.int p3), none, none], [.int v1], s1)) rfl rfl (m_X2_codeAt a0 N0 ha0 p1 (p2 + (1)) σ hk) rfl rfl ?_
  obtain ⟨⟨v2, s2⟩, hk, h⟩ := Option.bind_eq_some_iff.mp h
  dsimp only at h
  refine RU.call (as := [.int v1]) (rest := []) (u := some (.int v2)) (C' := (11, [some (.ref a0), some (.int p1), some (.int p2), some (.int p3), none, none], [.int v2], s2)) rfl rfl (m_X2_digitOf v1 s1 hk) rfl rfl ?_
  refine RU.blk (C' := (bif cLt v2 0 then 33 else 18, [some (.ref a0), some (.int p1), some (.int p2), some (.int p3), some (.int v2), none], [], s2)) 3 rfl ?_
  rcases cnd_some h with ⟨hc, h⟩ | ⟨hc, h⟩
  · refine RU.tt hc ?_
    refine RU.blk (C' := (36, [some (.ref a0), some (.int p1), some (.int p2), some (.int p3), some (.int v2), none], [.int (p2 + (1))], s2)) 3 rfl ?_
    obtain ⟨rfl, rfl⟩ := ret_inj h
    exact RU.ret rfl rfl rfl
  · refine RU.ff hc ?_
    refine RU.blk (C' := (24, [some (.ref a0), some (.int p1), some (.int p2), some (.int p3), some (.int v2), none], [.int (1), .ref a0, .int (v2 + p3)], s2)) 5 rfl ?_
    obtain ⟨⟨v3, s3⟩, hk, h⟩ := Option.bind_eq_some_iff.mp h
    dsimp only at h
    refine RU.call (as := [.ref a0, .int (1)]) (rest := [.int (v2 + p3)]) (u := some (.int v3)) (C' := (27, [some (.ref a0), some (.int p1), some (.int p2), some (.int p3), some (.int v2), none], [.int v3, .int (v2 + p3)], s3)) rfl rfl (m_X4_numberAt a0 N0 ha0 (1) s2 hk) rfl rfl ?_
    obtain ⟨⟨v4, s4⟩, hk, h⟩ := Option.bind_eq_some_iff.mp h
    dsimp only at h
    refine RU.call (as := [.int v3]) (rest := [.int (v2 + p3)]) (u := some (.int v4)) (C' := (30, [some (.ref a0), some (.int p1), some (.int p2), some (.int p3), some (.int v2), none], [.int v4, .int (v2 + p3)], s4)) rfl rfl (m_X2_digitOf v3 s3 hk) rfl rfl ?_
    refine RU.blk (C' := (bif cLe (v2 + p3) v4 then 37 else 33, [some (.ref a0), some (.int p1), some (.int p2), some (.int p3), some (.int v2), none], [], s4)) 1 rfl ?_
    rcases cnd_some h with ⟨hc, h⟩ | ⟨hc, h⟩
    · refine RU.tt hc ?_
      refine RU.blk (C' := (42, [some (.ref a0), some (.int p1), some (.int p2), some (.int p3), some (.int v2), none], [.int (p2 + (2)), .int p1, .ref a0], s4)) 5 rfl ?_
      obtain ⟨⟨v5, s5⟩, hk, h⟩ := Option.bind_eq_some_iff.mp h
      dsimp only at h
      refine RU.call (as := [.ref a0, .int p1, .int (p2 + (2))]) (rest := []) (u := some (.int v5)) (C' := (45, [some (.ref a0), some (.int p1), some (.int p2), some (.int p3), some (.int v2), none], [.int v5], s5)) rfl rfl (m_X2_codeAt a0 N0 ha0 p1 (p2 + (2)) s4 hk) rfl rfl ?_
      obtain ⟨⟨v6, s6⟩, hk, h⟩ := Option.bind_eq_some_iff.mp h
      dsimp only at h
      refine RU.call (as := [.int v5]) (rest := []) (u := some (.int v6)) (C' := (48, [some (.ref a0), some (.int p1), some (.int p2), some (.int p3), some (.int v2), none], [.int v6], s6)) rfl rfl (m_X2_digitOf v5 s5 hk) rfl rfl ?_
      refine RU.blk (C' := (bif cLt v6 0 then 68 else 55, [some (.ref a0), some (.int p1), some (.int p2), some (.int p3), some (.int v2), some (.int v6)], [], s6)) 3 rfl ?_
      rcases cnd_some h with ⟨hc, h⟩ | ⟨hc, h⟩
      · refine RU.tt hc ?_
        refine RU.blk (C' := (71, [some (.ref a0), some (.int p1), some (.int p2), some (.int p3), some (.int v2), some (.int v6)], [.int (p2 + (2))], s6)) 3 rfl ?_
        obtain ⟨rfl, rfl⟩ := ret_inj h
        exact RU.ret rfl rfl rfl
      · refine RU.ff hc ?_
        refine RU.blk (C' := (59, [some (.ref a0), some (.int p1), some (.int p2), some (.int p3), some (.int v2), some (.int v6)], [.int (2), .ref a0, .int v6], s6)) 3 rfl ?_
        obtain ⟨⟨v7, s7⟩, hk, h⟩ := Option.bind_eq_some_iff.mp h
        dsimp only at h
        refine RU.call (as := [.ref a0, .int (2)]) (rest := [.int v6]) (u := some (.int v7)) (C' := (62, [some (.ref a0), some (.int p1), some (.int p2), some (.int p3), some (.int v2), some (.int v6)], [.int v7, .int v6], s7)) rfl rfl (m_X4_numberAt a0 N0 ha0 (2) s6 hk) rfl rfl ?_
        obtain ⟨⟨v8, s8⟩, hk, h⟩ := Option.bind_eq_some_iff.mp h
        dsimp only at h
        refine RU.call (as := [.int v7]) (rest := [.int v6]) (u := some (.int v8)) (C' := (65, [some (.ref a0), some (.int p1), some (.int p2), some (.int p3), some (.int v2), some (.int v6)], [.int v8, .int v6], s8)) rfl rfl (m_X2_digitOf v7 s7 hk) rfl rfl ?_
        refine RU.blk (C' := (bif cLt v6 v8 then 72 else 68, [some (.ref a0), some (.int p1), some (.int p2), some (.int p3), some (.int v2), some (.int v6)], [], s8)) 1 rfl ?_
        rcases cnd_some h with ⟨hc, h⟩ | ⟨hc, h⟩
        · refine RU.tt hc ?_
          refine RU.blk (C' := (bif cNe (p2 + (3)) p1 then 83 else 79, [some (.ref a0), some (.int p1), some (.int p2), some (.int p3), some (.int v2), some (.int v6)], [], s8)) 5 rfl ?_
          rcases cnd_some h with ⟨hc, h⟩ | ⟨hc, h⟩
          · refine RU.tt hc ?_
            refine RU.blk (C' := (86, [some (.ref a0), some (.int p1), some (.int p2), some (.int p3), some (.int v2), some (.int v6)], [.int (p2 + (3))], s8)) 3 rfl ?_
            obtain ⟨rfl, rfl⟩ := ret_inj h
            exact RU.ret rfl rfl rfl
          · refine RU.ff hc ?_
            refine RU.blk (C' := (86, [some (.ref a0), some (.int p1), some (.int p2), some (.int p3), some (.int v2), some (.int v6)], [.int (-1)], s8)) 2 rfl ?_
            obtain ⟨rfl, rfl⟩ := ret_inj h
            exact RU.ret rfl rfl rfl
        · refine RU.ff hc ?_
          refine RU.blk (C' := (71, [some (.ref a0), some (.int p1), some (.int p2), some (.int p3), some (.int v2), some (.int v6)], [.int (p2 + (2))], s8)) 3 rfl ?_
          obtain ⟨rfl, rfl⟩ := ret_inj h
          exact RU.ret rfl rfl rfl
    · refine RU.ff hc ?_
      refine RU.blk (C' := (36, [some (.ref a0), some (.int p1), some (.int p2), some (.int p3), some (.int v2), none], [.int (p2 + (1))], s4)) 3 rfl ?_
      obtain ⟨rfl, rfl⟩ := ret_inj h
      exact RU.ret rfl rfl rfl
noncomputable def L_X2_faultInLookers (a0 : Nat) (N0 : Nat) : Nat → Int32 → Int32 → Int32 → Int32 → PS → Option (Int32 × PS)
  | 0, _, _, _, _, _ => none
  | n + 1, x1, x2, x3, x4, σ => 
    bif cGt x4 x3 then (
      some (x2, σ)
    ) else (
      (F_X2_codeAt a0 N0 x1 (x2 + ((3) * x4)) σ).bind fun q1 =>
      let v1 := q1.1
      let s1 := q1.2
      bif cNe v1 (47) then (
        bif cNe v1 (59) then (
          some ((x2 + ((3) * x4)), s1)
        ) else (
          bif cNe x4 x3 then (
            (F_X2_codeAt a0 N0 x1 ((x2 + ((3) * x4)) + (1)) s1).bind fun q2 =>
            let v2 := q2.1
            let s2 := q2.2
            (F_X2_kindOf v2 s2).bind fun q3 =>
            let v3 := q3.1
            let s3 := q3.2
            bif cGe v3 0 then (
              (F_X2_codeAt a0 N0 x1 ((x2 + ((3) * x4)) + (2)) s3).bind fun q4 =>
              let v4 := q4.1
              let s4 := q4.2
              (F_X2_digitOf v4 s4).bind fun q5 =>
              let v5 := q5.1
              let s5 := q5.2
              bif cGe v5 0 then (
                L_X2_faultInLookers a0 N0 n  x1 x2 x3 (x4 + (1)) s5
              ) else (
                some (((x2 + ((3) * x4)) + (2)), s5)
              )
            ) else (
              some (((x2 + ((3) * x4)) + (1)), s3)
            )
          ) else (
            some ((x2 + ((3) * x4)), s1)
          )
        )
      ) else (
        bif cLe x4 0 then (
          bif cNe v1 (59) then (
            some ((x2 + ((3) * x4)), s1)
          ) else (
            bif cNe x4 x3 then (
              (F_X2_codeAt a0 N0 x1 ((x2 + ((3) * x4)) + (1)) s1).bind fun q6 =>
              let v6 := q6.1
              let s6 := q6.2
              (F_X2_kindOf v6 s6).bind fun q7 =>
              let v7 := q7.1
              let s7 := q7.2
              bif cGe v7 0 then (
                (F_X2_codeAt a0 N0 x1 ((x2 + ((3) * x4)) + (2)) s7).bind fun q8 =>
                let v8 := q8.1
                let s8 := q8.2
                (F_X2_digitOf v8 s8).bind fun q9 =>
                let v9 := q9.1
                let s9 := q9.2
                bif cGe v9 0 then (
                  L_X2_faultInLookers a0 N0 n  x1 x2 x3 (x4 + (1)) s9
                ) else (
                  some (((x2 + ((3) * x4)) + (2)), s9)
                )
              ) else (
                some (((x2 + ((3) * x4)) + (1)), s7)
              )
            ) else (
              some ((x2 + ((3) * x4)), s1)
            )
          )
        ) else (
          (F_X2_faultInTail a0 N0 x1 (x2 + ((3) * x4)) x4 s1).bind fun q10 =>
          let v10 := q10.1
          let s10 := q10.2
          some (v10, s10)
        )
      )
    )
set_option maxRecDepth 50000 in
theorem ml_X2_faultInLookers (a0 N0 : Nat) (ha0 : layT[a0]? = some (.inr (.inl N0))) (n : Nat) : (∀ (x1 : Int32) (x2 : Int32) (x3 : Int32) (x4 : Int32) (u5 : Option Value) (u6 : Option Value) (σ : PS) (v : Int32) (σ' : PS), L_X2_faultInLookers a0 N0 n x1 x2 x3 x4 σ = some (v, σ') → RU ubX2_faultInLookers 3 68 (16, [some (.ref a0), some (.int x1), some (.int x2), some (.int x3), some (.int x4), u5, u6], [], σ) (some (.int v)) σ') := by
  induction n with
  | zero =>
    intro x1 x2 x3 x4 u5 u6 σ v σ' h; exact absurd (show (none : Option (Int32 × PS)) = some (v, σ') from h) (by simp)
  | succ n ih =>
    intro x1 x2 x3 x4 u5 u6 σ v σ' h
    rw [L_X2_faultInLookers] at h
    refine RU.blk (C' := (bif cGt x4 x3 then 123 else 22, [some (.ref a0), some (.int x1), some (.int x2), some (.int x3), some (.int x4), none, none], [], σ)) 3 rfl ?_
    rcases cnd_some h with ⟨hc, h⟩ | ⟨hc, h⟩
    · refine RU.tt hc ?_
      refine RU.blk (C' := (124, [some (.ref a0), some (.int x1), some (.int x2), some (.int x3), some (.int x4), none, none], [.int x2], σ)) 1 rfl ?_
      obtain ⟨rfl, rfl⟩ := ret_inj h
      exact RU.ret rfl rfl rfl
    · refine RU.ff hc ?_
      refine RU.blk (C' := (34, [some (.ref a0), some (.int x1), some (.int x2), some (.int x3), some (.int x4), some (.int (x2 + ((3) * x4))), none], [.int (x2 + ((3) * x4)), .int x1, .ref a0], σ)) 9 rfl ?_
      obtain ⟨⟨v1, s1⟩, hk, h⟩ := Option.bind_eq_some_iff.mp h
      dsimp only at h
      refine RU.call (as := [.ref a0, .int x1, .int (x2 + ((3) * x4))]) (rest := []) (u := some (.int v1)) (C' := (37, [some (.ref a0), some (.int x1), some (.int x2), some (.int x3), some (.int x4), some (.int (x2 + ((3) * x4))), none], [.int v1], s1)) rfl rfl (m_X2_codeAt a0 N0 ha0 x1 (x2 + ((3) * x4)) σ hk) rfl rfl ?_
      refine RU.blk (C' := (bif cNe v1 (47) then 61 else 46, [some (.ref a0), some (.int x1), some (.int x2), some (.int x3), some (.int x4), some (.int (x2 + ((3) * x4))), some (.int v1)], [], s1)) 4 rfl ?_
      rcases cnd_some h with ⟨hc, h⟩ | ⟨hc, h⟩
      · refine RU.tt hc ?_
        refine RU.blk (C' := (bif cNe v1 (59) then 74 else 68, [some (.ref a0), some (.int x1), some (.int x2), some (.int x3), some (.int x4), some (.int (x2 + ((3) * x4))), some (.int v1)], [], s1)) 3 rfl ?_
        rcases cnd_some h with ⟨hc, h⟩ | ⟨hc, h⟩
        · refine RU.tt hc ?_
          refine RU.blk (C' := (76, [some (.ref a0), some (.int x1), some (.int x2), some (.int x3), some (.int x4), some (.int (x2 + ((3) * x4))), some (.int v1)], [.int (x2 + ((3) * x4))], s1)) 1 rfl ?_
          obtain ⟨rfl, rfl⟩ := ret_inj h
          exact RU.ret rfl rfl rfl
        · refine RU.ff hc ?_
          refine RU.blk (C' := (bif cNe x4 x3 then 77 else 74, [some (.ref a0), some (.int x1), some (.int x2), some (.int x3), some (.int x4), some (.int (x2 + ((3) * x4))), some (.int v1)], [], s1)) 3 rfl ?_
          rcases cnd_some h with ⟨hc, h⟩ | ⟨hc, h⟩
          · refine RU.tt hc ?_
            refine RU.blk (C' := (83, [some (.ref a0), some (.int x1), some (.int x2), some (.int x3), some (.int x4), some (.int (x2 + ((3) * x4))), some (.int v1)], [.int ((x2 + ((3) * x4)) + (1)), .int x1, .ref a0], s1)) 5 rfl ?_
            obtain ⟨⟨v2, s2⟩, hk, h⟩ := Option.bind_eq_some_iff.mp h
            dsimp only at h
            refine RU.call (as := [.ref a0, .int x1, .int ((x2 + ((3) * x4)) + (1))]) (rest := []) (u := some (.int v2)) (C' := (86, [some (.ref a0), some (.int x1), some (.int x2), some (.int x3), some (.int x4), some (.int (x2 + ((3) * x4))), some (.int v1)], [.int v2], s2)) rfl rfl (m_X2_codeAt a0 N0 ha0 x1 ((x2 + ((3) * x4)) + (1)) s1 hk) rfl rfl ?_
            obtain ⟨⟨v3, s3⟩, hk, h⟩ := Option.bind_eq_some_iff.mp h
            dsimp only at h
            refine RU.call (as := [.int v2]) (rest := []) (u := some (.int v3)) (C' := (89, [some (.ref a0), some (.int x1), some (.int x2), some (.int x3), some (.int x4), some (.int (x2 + ((3) * x4))), some (.int v1)], [.int v3], s3)) rfl rfl (m_X2_kindOf v2 s2 hk) rfl rfl ?_
            refine RU.blk (C' := (bif cGe v3 0 then 97 else 92, [some (.ref a0), some (.int x1), some (.int x2), some (.int x3), some (.int x4), some (.int (x2 + ((3) * x4))), some (.int v1)], [], s3)) 1 rfl ?_
            rcases cnd_some h with ⟨hc, h⟩ | ⟨hc, h⟩
            · refine RU.tt hc ?_
              refine RU.blk (C' := (103, [some (.ref a0), some (.int x1), some (.int x2), some (.int x3), some (.int x4), some (.int (x2 + ((3) * x4))), some (.int v1)], [.int ((x2 + ((3) * x4)) + (2)), .int x1, .ref a0], s3)) 5 rfl ?_
              obtain ⟨⟨v4, s4⟩, hk, h⟩ := Option.bind_eq_some_iff.mp h
              dsimp only at h
              refine RU.call (as := [.ref a0, .int x1, .int ((x2 + ((3) * x4)) + (2))]) (rest := []) (u := some (.int v4)) (C' := (106, [some (.ref a0), some (.int x1), some (.int x2), some (.int x3), some (.int x4), some (.int (x2 + ((3) * x4))), some (.int v1)], [.int v4], s4)) rfl rfl (m_X2_codeAt a0 N0 ha0 x1 ((x2 + ((3) * x4)) + (2)) s3 hk) rfl rfl ?_
              obtain ⟨⟨v5, s5⟩, hk, h⟩ := Option.bind_eq_some_iff.mp h
              dsimp only at h
              refine RU.call (as := [.int v4]) (rest := []) (u := some (.int v5)) (C' := (109, [some (.ref a0), some (.int x1), some (.int x2), some (.int x3), some (.int x4), some (.int (x2 + ((3) * x4))), some (.int v1)], [.int v5], s5)) rfl rfl (m_X2_digitOf v4 s4 hk) rfl rfl ?_
              refine RU.blk (C' := (bif cGe v5 0 then 117 else 112, [some (.ref a0), some (.int x1), some (.int x2), some (.int x3), some (.int x4), some (.int (x2 + ((3) * x4))), some (.int v1)], [], s5)) 1 rfl ?_
              rcases cnd_some h with ⟨hc, h⟩ | ⟨hc, h⟩
              · refine RU.tt hc ?_
                refine RU.blk (C' := (16, [some (.ref a0), some (.int x1), some (.int x2), some (.int x3), some (.int (x4 + (1))), some (.int (x2 + ((3) * x4))), some (.int v1)], [], s5)) 2 rfl ?_
                exact ih x1 x2 x3 (x4 + (1)) (some (.int (x2 + ((3) * x4)))) (some (.int v1)) _ _ _ h
              · refine RU.ff hc ?_
                refine RU.blk (C' := (116, [some (.ref a0), some (.int x1), some (.int x2), some (.int x3), some (.int x4), some (.int (x2 + ((3) * x4))), some (.int v1)], [.int ((x2 + ((3) * x4)) + (2))], s5)) 3 rfl ?_
                obtain ⟨rfl, rfl⟩ := ret_inj h
                exact RU.ret rfl rfl rfl
            · refine RU.ff hc ?_
              refine RU.blk (C' := (96, [some (.ref a0), some (.int x1), some (.int x2), some (.int x3), some (.int x4), some (.int (x2 + ((3) * x4))), some (.int v1)], [.int ((x2 + ((3) * x4)) + (1))], s3)) 3 rfl ?_
              obtain ⟨rfl, rfl⟩ := ret_inj h
              exact RU.ret rfl rfl rfl
          · refine RU.ff hc ?_
            refine RU.blk (C' := (76, [some (.ref a0), some (.int x1), some (.int x2), some (.int x3), some (.int x4), some (.int (x2 + ((3) * x4))), some (.int v1)], [.int (x2 + ((3) * x4))], s1)) 1 rfl ?_
            obtain ⟨rfl, rfl⟩ := ret_inj h
            exact RU.ret rfl rfl rfl
      · refine RU.ff hc ?_
        refine RU.blk (C' := (bif cLe x4 0 then 61 else 51, [some (.ref a0), some (.int x1), some (.int x2), some (.int x3), some (.int x4), some (.int (x2 + ((3) * x4))), some (.int v1)], [], s1)) 2 rfl ?_
        rcases cnd_some h with ⟨hc, h⟩ | ⟨hc, h⟩
        · refine RU.tt hc ?_
          refine RU.blk (C' := (bif cNe v1 (59) then 74 else 68, [some (.ref a0), some (.int x1), some (.int x2), some (.int x3), some (.int x4), some (.int (x2 + ((3) * x4))), some (.int v1)], [], s1)) 3 rfl ?_
          rcases cnd_some h with ⟨hc, h⟩ | ⟨hc, h⟩
          · refine RU.tt hc ?_
            refine RU.blk (C' := (76, [some (.ref a0), some (.int x1), some (.int x2), some (.int x3), some (.int x4), some (.int (x2 + ((3) * x4))), some (.int v1)], [.int (x2 + ((3) * x4))], s1)) 1 rfl ?_
            obtain ⟨rfl, rfl⟩ := ret_inj h
            exact RU.ret rfl rfl rfl
          · refine RU.ff hc ?_
            refine RU.blk (C' := (bif cNe x4 x3 then 77 else 74, [some (.ref a0), some (.int x1), some (.int x2), some (.int x3), some (.int x4), some (.int (x2 + ((3) * x4))), some (.int v1)], [], s1)) 3 rfl ?_
            rcases cnd_some h with ⟨hc, h⟩ | ⟨hc, h⟩
            · refine RU.tt hc ?_
              refine RU.blk (C' := (83, [some (.ref a0), some (.int x1), some (.int x2), some (.int x3), some (.int x4), some (.int (x2 + ((3) * x4))), some (.int v1)], [.int ((x2 + ((3) * x4)) + (1)), .int x1, .ref a0], s1)) 5 rfl ?_
              obtain ⟨⟨v6, s6⟩, hk, h⟩ := Option.bind_eq_some_iff.mp h
              dsimp only at h
              refine RU.call (as := [.ref a0, .int x1, .int ((x2 + ((3) * x4)) + (1))]) (rest := []) (u := some (.int v6)) (C' := (86, [some (.ref a0), some (.int x1), some (.int x2), some (.int x3), some (.int x4), some (.int (x2 + ((3) * x4))), some (.int v1)], [.int v6], s6)) rfl rfl (m_X2_codeAt a0 N0 ha0 x1 ((x2 + ((3) * x4)) + (1)) s1 hk) rfl rfl ?_
              obtain ⟨⟨v7, s7⟩, hk, h⟩ := Option.bind_eq_some_iff.mp h
              dsimp only at h
              refine RU.call (as := [.int v6]) (rest := []) (u := some (.int v7)) (C' := (89, [some (.ref a0), some (.int x1), some (.int x2), some (.int x3), some (.int x4), some (.int (x2 + ((3) * x4))), some (.int v1)], [.int v7], s7)) rfl rfl (m_X2_kindOf v6 s6 hk) rfl rfl ?_
              refine RU.blk (C' := (bif cGe v7 0 then 97 else 92, [some (.ref a0), some (.int x1), some (.int x2), some (.int x3), some (.int x4), some (.int (x2 + ((3) * x4))), some (.int v1)], [], s7)) 1 rfl ?_
              rcases cnd_some h with ⟨hc, h⟩ | ⟨hc, h⟩
              · refine RU.tt hc ?_
                refine RU.blk (C' := (103, [some (.ref a0), some (.int x1), some (.int x2), some (.int x3), some (.int x4), some (.int (x2 + ((3) * x4))), some (.int v1)], [.int ((x2 + ((3) * x4)) + (2)), .int x1, .ref a0], s7)) 5 rfl ?_
                obtain ⟨⟨v8, s8⟩, hk, h⟩ := Option.bind_eq_some_iff.mp h
                dsimp only at h
                refine RU.call (as := [.ref a0, .int x1, .int ((x2 + ((3) * x4)) + (2))]) (rest := []) (u := some (.int v8)) (C' := (106, [some (.ref a0), some (.int x1), some (.int x2), some (.int x3), some (.int x4), some (.int (x2 + ((3) * x4))), some (.int v1)], [.int v8], s8)) rfl rfl (m_X2_codeAt a0 N0 ha0 x1 ((x2 + ((3) * x4)) + (2)) s7 hk) rfl rfl ?_
                obtain ⟨⟨v9, s9⟩, hk, h⟩ := Option.bind_eq_some_iff.mp h
                dsimp only at h
                refine RU.call (as := [.int v8]) (rest := []) (u := some (.int v9)) (C' := (109, [some (.ref a0), some (.int x1), some (.int x2), some (.int x3), some (.int x4), some (.int (x2 + ((3) * x4))), some (.int v1)], [.int v9], s9)) rfl rfl (m_X2_digitOf v8 s8 hk) rfl rfl ?_
                refine RU.blk (C' := (bif cGe v9 0 then 117 else 112, [some (.ref a0), some (.int x1), some (.int x2), some (.int x3), some (.int x4), some (.int (x2 + ((3) * x4))), some (.int v1)], [], s9)) 1 rfl ?_
                rcases cnd_some h with ⟨hc, h⟩ | ⟨hc, h⟩
                · refine RU.tt hc ?_
                  refine RU.blk (C' := (16, [some (.ref a0), some (.int x1), some (.int x2), some (.int x3), some (.int (x4 + (1))), some (.int (x2 + ((3) * x4))), some (.int v1)], [], s9)) 2 rfl ?_
                  exact ih x1 x2 x3 (x4 + (1)) (some (.int (x2 + ((3) * x4)))) (some (.int v1)) _ _ _ h
                · refine RU.ff hc ?_
                  refine RU.blk (C' := (116, [some (.ref a0), some (.int x1), some (.int x2), some (.int x3), some (.int x4), some (.int (x2 + ((3) * x4))), some (.int v1)], [.int ((x2 + ((3) * x4)) + (2))], s9)) 3 rfl ?_
                  obtain ⟨rfl, rfl⟩ := ret_inj h
                  exact RU.ret rfl rfl rfl
              · refine RU.ff hc ?_
                refine RU.blk (C' := (96, [some (.ref a0), some (.int x1), some (.int x2), some (.int x3), some (.int x4), some (.int (x2 + ((3) * x4))), some (.int v1)], [.int ((x2 + ((3) * x4)) + (1))], s7)) 3 rfl ?_
                obtain ⟨rfl, rfl⟩ := ret_inj h
                exact RU.ret rfl rfl rfl
            · refine RU.ff hc ?_
              refine RU.blk (C' := (76, [some (.ref a0), some (.int x1), some (.int x2), some (.int x3), some (.int x4), some (.int (x2 + ((3) * x4))), some (.int v1)], [.int (x2 + ((3) * x4))], s1)) 1 rfl ?_
              obtain ⟨rfl, rfl⟩ := ret_inj h
              exact RU.ret rfl rfl rfl
        · refine RU.ff hc ?_
          refine RU.blk (C' := (57, [some (.ref a0), some (.int x1), some (.int x2), some (.int x3), some (.int x4), some (.int (x2 + ((3) * x4))), some (.int v1)], [.int x4, .int (x2 + ((3) * x4)), .int x1, .ref a0], s1)) 4 rfl ?_
          obtain ⟨⟨v10, s10⟩, hk, h⟩ := Option.bind_eq_some_iff.mp h
          dsimp only at h
          refine RU.call (as := [.ref a0, .int x1, .int (x2 + ((3) * x4)), .int x4]) (rest := []) (u := some (.int v10)) (C' := (60, [some (.ref a0), some (.int x1), some (.int x2), some (.int x3), some (.int x4), some (.int (x2 + ((3) * x4))), some (.int v1)], [.int v10], s10)) rfl rfl (m_X2_faultInTail a0 N0 ha0 x1 (x2 + ((3) * x4)) x4 s1 hk) rfl rfl ?_
          obtain ⟨rfl, rfl⟩ := ret_inj h
          exact RU.ret rfl rfl rfl
noncomputable def F_X2_faultInLookers (a0 N0 : Nat) (p1 : Int32) (p2 : Int32) (σ : PS) : Option (Int32 × PS) :=
  (F_X4_numberAt a0 N0 (1) σ).bind fun q11 =>
  let v11 := q11.1
  let s11 := q11.2
  (F_X2_digitOf v11 s11).bind fun q12 =>
  let v12 := q12.1
  let s12 := q12.2
  L_X2_faultInLookers a0 N0 fuelN  p1 p2 (imin v12 (4)) (0) s12
set_option maxRecDepth 50000 in
theorem m_X2_faultInLookers (a0 N0 : Nat) (ha0 : layT[a0]? = some (.inr (.inl N0))) (p1 : Int32) (p2 : Int32) (σ : PS) {v : Int32} {σ' : PS} (h : F_X2_faultInLookers a0 N0 p1 p2 σ = some (v, σ')) : PR 54 [.ref a0, .int p1, .int p2] σ (some (.int v)) σ' := by
  refine PR.enter (L := [some (.ref a0), some (.int p1), some (.int p2), none, none, none, none]) uT_54 uD_54 rfl rfl ?_
  unfold F_X2_faultInLookers at h
  refine RU.blk (C' := (2, [some (.ref a0), some (.int p1), some (.int p2), none, none, none, none], [.int (1), .ref a0], σ)) 2 rfl ?_
  obtain ⟨⟨v11, s11⟩, hk, h⟩ := Option.bind_eq_some_iff.mp h
  dsimp only at h
  refine RU.call (as := [.ref a0, .int (1)]) (rest := []) (u := some (.int v11)) (C' := (5, [some (.ref a0), some (.int p1), some (.int p2), none, none, none, none], [.int v11], s11)) rfl rfl (m_X4_numberAt a0 N0 ha0 (1) σ hk) rfl rfl ?_
  obtain ⟨⟨v12, s12⟩, hk, h⟩ := Option.bind_eq_some_iff.mp h
  dsimp only at h
  refine RU.call (as := [.int v11]) (rest := []) (u := some (.int v12)) (C' := (8, [some (.ref a0), some (.int p1), some (.int p2), none, none, none, none], [.int v12], s12)) rfl rfl (m_X2_digitOf v11 s11 hk) rfl rfl ?_
  refine RU.blk (C' := (16, [some (.ref a0), some (.int p1), some (.int p2), some (.int (imin v12 (4))), some (.int (0)), none, none], [], s12)) 5 rfl ?_
  exact (ml_X2_faultInLookers a0 N0 ha0 fuelN) p1 p2 (imin v12 (4)) (0) none none _ _ _ h
noncomputable def F_X2_isEdge (p0 : Int32) (σ : PS) : Option (Int32 × PS) :=
  (F_X4_within p0 (2) (6) σ).bind fun q1 =>
  let v1 := q1.1
  let s1 := q1.2
  bif okb v1 then some (v1, s1) else none
set_option maxRecDepth 50000 in
theorem m_X2_isEdge (p0 : Int32) (σ : PS) {v : Int32} {σ' : PS} (h : F_X2_isEdge p0 σ = some (v, σ')) : PR 57 [.int p0] σ (some (.int v)) σ' := by
  refine PR.enter (L := [some (.int p0)]) uT_57 uD_57 rfl rfl ?_
  unfold F_X2_isEdge at h
  refine RU.blk (C' := (4, [some (.int p0)], [.int (6), .int (2), .int p0], σ)) 3 rfl ?_
  obtain ⟨⟨v1, s1⟩, hk, h⟩ := Option.bind_eq_some_iff.mp h
  dsimp only at h
  refine RU.call (as := [.int p0, .int (2), .int (6)]) (rest := []) (u := some (.int v1)) (C' := (7, [some (.int p0)], [.int v1], s1)) rfl rfl (m_X4_within p0 (2) (6) σ hk) rfl rfl ?_
  obtain ⟨hb, h⟩ := cnd_n h
  obtain ⟨rfl, rfl⟩ := ret_inj h
  exact RU.ret rfl (pret_b hb) rfl
noncomputable def L_X2_firstFault (a0 : Nat) (N0 : Nat) : Nat → Int32 → Int32 → Int32 → PS → Option (Int32 × PS)
  | 0, _, _, _, _ => none
  | n + 1, x1, x4, x5, σ => 
    bif cGe x5 x4 then (
      (F_X2_faultInLookers a0 N0 x1 x4 σ).bind fun q1 =>
      let v1 := q1.1
      let s1 := q1.2
      some (v1, s1)
    ) else (
      (F_X2_codeAt a0 N0 x1 x5 σ).bind fun q2 =>
      let v2 := q2.1
      let s2 := q2.2
      (F_X2_digitOf v2 s2).bind fun q3 =>
      let v3 := q3.1
      let s3 := q3.2
      bif cGe v3 0 then (
        L_X2_firstFault a0 N0 n  x1 x4 (x5 + (1)) s3
      ) else (
        some (x5, s3)
      )
    )
set_option maxRecDepth 50000 in
theorem ml_X2_firstFault (a0 N0 : Nat) (ha0 : layT[a0]? = some (.inr (.inl N0))) (n : Nat) : (∀ (x1 : Int32) (x4 : Int32) (x5 : Int32) (u2 : Option Value) (u3 : Option Value) (σ : PS) (v : Int32) (σ' : PS), L_X2_firstFault a0 N0 n x1 x4 x5 σ = some (v, σ') → RU ubX2_firstFault 4 94 (61, [some (.ref a0), some (.int x1), u2, u3, some (.int x4), some (.int x5)], [], σ) (some (.int v)) σ') := by
  induction n with
  | zero =>
    intro x1 x4 x5 u2 u3 σ v σ' h; exact absurd (show (none : Option (Int32 × PS)) = some (v, σ') from h) (by simp)
  | succ n ih =>
    intro x1 x4 x5 u2 u3 σ v σ' h
    rw [L_X2_firstFault] at h
    refine RU.blk (C' := (bif cGe x5 x4 then 90 else 68, [some (.ref a0), some (.int x1), none, none, some (.int x4), some (.int x5)], [], σ)) 3 rfl ?_
    rcases cnd_some h with ⟨hc, h⟩ | ⟨hc, h⟩
    · refine RU.tt hc ?_
      refine RU.blk (C' := (94, [some (.ref a0), some (.int x1), none, none, some (.int x4), some (.int x5)], [.int x4, .int x1, .ref a0], σ)) 3 rfl ?_
      obtain ⟨⟨v1, s1⟩, hk, h⟩ := Option.bind_eq_some_iff.mp h
      dsimp only at h
      refine RU.call (as := [.ref a0, .int x1, .int x4]) (rest := []) (u := some (.int v1)) (C' := (97, [some (.ref a0), some (.int x1), none, none, some (.int x4), some (.int x5)], [.int v1], s1)) rfl rfl (m_X2_faultInLookers a0 N0 ha0 x1 x4 σ hk) rfl rfl ?_
      obtain ⟨rfl, rfl⟩ := ret_inj h
      exact RU.ret rfl rfl rfl
    · refine RU.ff hc ?_
      refine RU.blk (C' := (72, [some (.ref a0), some (.int x1), none, none, some (.int x4), some (.int x5)], [.int x5, .int x1, .ref a0], σ)) 3 rfl ?_
      obtain ⟨⟨v2, s2⟩, hk, h⟩ := Option.bind_eq_some_iff.mp h
      dsimp only at h
      refine RU.call (as := [.ref a0, .int x1, .int x5]) (rest := []) (u := some (.int v2)) (C' := (75, [some (.ref a0), some (.int x1), none, none, some (.int x4), some (.int x5)], [.int v2], s2)) rfl rfl (m_X2_codeAt a0 N0 ha0 x1 x5 σ hk) rfl rfl ?_
      obtain ⟨⟨v3, s3⟩, hk, h⟩ := Option.bind_eq_some_iff.mp h
      dsimp only at h
      refine RU.call (as := [.int v2]) (rest := []) (u := some (.int v3)) (C' := (78, [some (.ref a0), some (.int x1), none, none, some (.int x4), some (.int x5)], [.int v3], s3)) rfl rfl (m_X2_digitOf v2 s2 hk) rfl rfl ?_
      refine RU.blk (C' := (bif cGe v3 0 then 84 else 81, [some (.ref a0), some (.int x1), none, none, some (.int x4), some (.int x5)], [], s3)) 1 rfl ?_
      rcases cnd_some h with ⟨hc, h⟩ | ⟨hc, h⟩
      · refine RU.tt hc ?_
        refine RU.blk (C' := (61, [some (.ref a0), some (.int x1), none, none, some (.int x4), some (.int (x5 + (1)))], [], s3)) 2 rfl ?_
        exact ih x1 x4 (x5 + (1)) none none _ _ _ h
      · refine RU.ff hc ?_
        refine RU.blk (C' := (83, [some (.ref a0), some (.int x1), none, none, some (.int x4), some (.int x5)], [.int x5], s3)) 1 rfl ?_
        obtain ⟨rfl, rfl⟩ := ret_inj h
        exact RU.ret rfl rfl rfl
noncomputable def F_X2_firstFault (a0 N0 : Nat) (p1 : Int32) (σ : PS) : Option (Int32 × PS) :=
  (F_X2_codeAt a0 N0 p1 (0) σ).bind fun q4 =>
  let v4 := q4.1
  let s4 := q4.2
  bif cEq v4 (102) then (
    (F_X2_codeAt a0 N0 p1 (1) s4).bind fun q5 =>
    let v5 := q5.1
    let s5 := q5.2
    (F_X2_digitOf v5 s5).bind fun q6 =>
    let v6 := q6.1
    let s6 := q6.2
    (F_X2_isEdge v6 s6).bind fun q7 =>
    let v7 := q7.1
    let s7 := q7.2
    bif cNe v7 0 then (
      (F_X2_codeAt a0 N0 p1 (2) s7).bind fun q8 =>
      let v8 := q8.1
      let s8 := q8.2
      (F_X2_digitOf v8 s8).bind fun q9 =>
      let v9 := q9.1
      let s9 := q9.2
      (F_X2_isEdge v9 s9).bind fun q10 =>
      let v10 := q10.1
      let s10 := q10.2
      bif cNe v10 0 then (
        L_X2_firstFault a0 N0 fuelN  p1 ((3) + (v6 * v9)) (3) s10
      ) else (
        some ((2), s10)
      )
    ) else (
      some ((1), s7)
    )
  ) else (
    some ((0), s4)
  )
set_option maxRecDepth 50000 in
theorem m_X2_firstFault (a0 N0 : Nat) (ha0 : layT[a0]? = some (.inr (.inl N0))) (p1 : Int32) (σ : PS) {v : Int32} {σ' : PS} (h : F_X2_firstFault a0 N0 p1 σ = some (v, σ')) : PR 53 [.ref a0, .int p1] σ (some (.int v)) σ' := by
  refine PR.enter (L := [some (.ref a0), some (.int p1), none, none, none, none]) uT_53 uD_53 rfl rfl ?_
  unfold F_X2_firstFault at h
  refine RU.blk (C' := (3, [some (.ref a0), some (.int p1), none, none, none, none], [.int (0), .int p1, .ref a0], σ)) 3 rfl ?_
  obtain ⟨⟨v4, s4⟩, hk, h⟩ := Option.bind_eq_some_iff.mp h
  dsimp only at h
  refine RU.call (as := [.ref a0, .int p1, .int (0)]) (rest := []) (u := some (.int v4)) (C' := (6, [some (.ref a0), some (.int p1), none, none, none, none], [.int v4], s4)) rfl rfl (m_X2_codeAt a0 N0 ha0 p1 (0) σ hk) rfl rfl ?_
  refine RU.blk (C' := (bif cEq v4 (102) then 13 else 11, [some (.ref a0), some (.int p1), none, none, none, none], [], s4)) 2 rfl ?_
  rcases cnd_some h with ⟨hc, h⟩ | ⟨hc, h⟩
  · refine RU.tt hc ?_
    refine RU.blk (C' := (16, [some (.ref a0), some (.int p1), none, none, none, none], [.int (1), .int p1, .ref a0], s4)) 3 rfl ?_
    obtain ⟨⟨v5, s5⟩, hk, h⟩ := Option.bind_eq_some_iff.mp h
    dsimp only at h
    refine RU.call (as := [.ref a0, .int p1, .int (1)]) (rest := []) (u := some (.int v5)) (C' := (19, [some (.ref a0), some (.int p1), none, none, none, none], [.int v5], s5)) rfl rfl (m_X2_codeAt a0 N0 ha0 p1 (1) s4 hk) rfl rfl ?_
    obtain ⟨⟨v6, s6⟩, hk, h⟩ := Option.bind_eq_some_iff.mp h
    dsimp only at h
    refine RU.call (as := [.int v5]) (rest := []) (u := some (.int v6)) (C' := (22, [some (.ref a0), some (.int p1), none, none, none, none], [.int v6], s6)) rfl rfl (m_X2_digitOf v5 s5 hk) rfl rfl ?_
    refine RU.blk (C' := (24, [some (.ref a0), some (.int p1), some (.int v6), none, none, none], [.int v6], s6)) 2 rfl ?_
    obtain ⟨⟨v7, s7⟩, hk, h⟩ := Option.bind_eq_some_iff.mp h
    dsimp only at h
    refine RU.call (as := [.int v6]) (rest := []) (u := some (.int v7)) (C' := (27, [some (.ref a0), some (.int p1), some (.int v6), none, none, none], [.int v7], s7)) rfl rfl (m_X2_isEdge v6 s6 hk) rfl rfl ?_
    refine RU.blk (C' := (bif cNe v7 0 then 32 else 30, [some (.ref a0), some (.int p1), some (.int v6), none, none, none], [], s7)) 1 rfl ?_
    rcases cnd_some h with ⟨hc, h⟩ | ⟨hc, h⟩
    · refine RU.tt hc ?_
      refine RU.blk (C' := (35, [some (.ref a0), some (.int p1), some (.int v6), none, none, none], [.int (2), .int p1, .ref a0], s7)) 3 rfl ?_
      obtain ⟨⟨v8, s8⟩, hk, h⟩ := Option.bind_eq_some_iff.mp h
      dsimp only at h
      refine RU.call (as := [.ref a0, .int p1, .int (2)]) (rest := []) (u := some (.int v8)) (C' := (38, [some (.ref a0), some (.int p1), some (.int v6), none, none, none], [.int v8], s8)) rfl rfl (m_X2_codeAt a0 N0 ha0 p1 (2) s7 hk) rfl rfl ?_
      obtain ⟨⟨v9, s9⟩, hk, h⟩ := Option.bind_eq_some_iff.mp h
      dsimp only at h
      refine RU.call (as := [.int v8]) (rest := []) (u := some (.int v9)) (C' := (41, [some (.ref a0), some (.int p1), some (.int v6), none, none, none], [.int v9], s9)) rfl rfl (m_X2_digitOf v8 s8 hk) rfl rfl ?_
      refine RU.blk (C' := (43, [some (.ref a0), some (.int p1), some (.int v6), some (.int v9), none, none], [.int v9], s9)) 2 rfl ?_
      obtain ⟨⟨v10, s10⟩, hk, h⟩ := Option.bind_eq_some_iff.mp h
      dsimp only at h
      refine RU.call (as := [.int v9]) (rest := []) (u := some (.int v10)) (C' := (46, [some (.ref a0), some (.int p1), some (.int v6), some (.int v9), none, none], [.int v10], s10)) rfl rfl (m_X2_isEdge v9 s9 hk) rfl rfl ?_
      refine RU.blk (C' := (bif cNe v10 0 then 51 else 49, [some (.ref a0), some (.int p1), some (.int v6), some (.int v9), none, none], [], s10)) 1 rfl ?_
      rcases cnd_some h with ⟨hc, h⟩ | ⟨hc, h⟩
      · refine RU.tt hc ?_
        refine RU.blk (C' := (61, [some (.ref a0), some (.int p1), some (.int v6), some (.int v9), some (.int ((3) + (v6 * v9))), some (.int (3))], [], s10)) 8 rfl ?_
        exact (ml_X2_firstFault a0 N0 ha0 fuelN) p1 ((3) + (v6 * v9)) (3) (some (.int v6)) (some (.int v9)) _ _ _ h
      · refine RU.ff hc ?_
        refine RU.blk (C' := (50, [some (.ref a0), some (.int p1), some (.int v6), some (.int v9), none, none], [.int (2)], s10)) 1 rfl ?_
        obtain ⟨rfl, rfl⟩ := ret_inj h
        exact RU.ret rfl rfl rfl
    · refine RU.ff hc ?_
      refine RU.blk (C' := (31, [some (.ref a0), some (.int p1), some (.int v6), none, none, none], [.int (1)], s7)) 1 rfl ?_
      obtain ⟨rfl, rfl⟩ := ret_inj h
      exact RU.ret rfl rfl rfl
  · refine RU.ff hc ?_
    refine RU.blk (C' := (12, [some (.ref a0), some (.int p1), none, none, none, none], [.int (0)], s4)) 1 rfl ?_
    obtain ⟨rfl, rfl⟩ := ret_inj h
    exact RU.ret rfl rfl rfl
noncomputable def F_X3_hasNothing (r0 : Nat) (σ : PS) : Option (Int32 × PS) :=
  bif cNe (gI σ (64 * r0 + 1)) (-1) then (
    some ((0), σ)
  ) else (
    some ((1), σ)
  )
set_option maxRecDepth 50000 in
theorem m_X3_hasNothing (r0 : Nat) (hr0 : isSh r0 = true) (σ : PS) {v : Int32} {σ' : PS} (h : F_X3_hasNothing r0 σ = some (v, σ')) : PR 61 [.ref r0] σ (some (.int v)) σ' := by
  refine PR.enter (L := [some (.ref r0)]) uT_61 uD_61 rfl rfl ?_
  unfold F_X3_hasNothing at h
  refine RU.blk (C' := (1, [some (.ref r0)], [.ref r0], σ)) 1 rfl ?_
  refine RU.getf (u := .int (gI σ (64 * r0 + 1))) rfl (sh_lay hr0) rfl rfl ?_
  refine RU.blk (C' := (bif cNe (gI σ (64 * r0 + 1)) (-1) then 12 else 8, [some (.ref r0)], [], σ)) 2 rfl ?_
  rcases cnd_some h with ⟨hc, h⟩ | ⟨hc, h⟩
  · refine RU.tt hc ?_
    refine RU.blk (C' := (13, [some (.ref r0)], [.int (0)], σ)) 1 rfl ?_
    obtain ⟨rfl, rfl⟩ := ret_inj h
    exact RU.ret rfl rfl rfl
  · refine RU.ff hc ?_
    refine RU.blk (C' := (13, [some (.ref r0)], [.int (1)], σ)) 2 rfl ?_
    obtain ⟨rfl, rfl⟩ := ret_inj h
    exact RU.ret rfl rfl rfl
noncomputable def F_X3_lane (r0 : Nat) (σ : PS) : Option (Int32 × PS) :=
  some ((gI σ (64 * r0 + 2)), σ)
set_option maxRecDepth 50000 in
theorem m_X3_lane (r0 : Nat) (hr0 : isSh r0 = true) (σ : PS) {v : Int32} {σ' : PS} (h : F_X3_lane r0 σ = some (v, σ')) : PR 62 [.ref r0] σ (some (.int v)) σ' := by
  refine PR.enter (L := [some (.ref r0)]) uT_62 uD_62 rfl rfl ?_
  unfold F_X3_lane at h
  refine RU.blk (C' := (1, [some (.ref r0)], [.ref r0], σ)) 1 rfl ?_
  refine RU.getf (u := .int (gI σ (64 * r0 + 2))) rfl (sh_lay hr0) rfl rfl ?_
  obtain ⟨rfl, rfl⟩ := ret_inj h
  exact RU.ret rfl rfl rfl
noncomputable def F_X3_hasCells (r0 : Nat) (p0 : Int32) (p1 : Int32) (σ : PS) : Option (Int32 × PS) :=
  bif cLt p0 0 then (
    some ((0), σ)
  ) else (
    bif cLt p1 0 then (
      some ((0), σ)
    ) else (
      bif cGt p0 ((gI σ (64 * r0 + 1)) - p1) then (
        some ((0), σ)
      ) else (
        some ((1), σ)
      )
    )
  )
set_option maxRecDepth 50000 in
theorem m_X3_hasCells (r0 : Nat) (hr0 : isSh r0 = true) (p0 : Int32) (p1 : Int32) (σ : PS) {v : Int32} {σ' : PS} (h : F_X3_hasCells r0 p0 p1 σ = some (v, σ')) : PR 63 [.ref r0, .int p0, .int p1] σ (some (.int v)) σ' := by
  refine PR.enter (L := [some (.ref r0), some (.int p0), some (.int p1)]) uT_63 uD_63 rfl rfl ?_
  unfold F_X3_hasCells at h
  refine RU.blk (C' := (bif cLt p0 0 then 22 else 4, [some (.ref r0), some (.int p0), some (.int p1)], [], σ)) 2 rfl ?_
  rcases cnd_some h with ⟨hc, h⟩ | ⟨hc, h⟩
  · refine RU.tt hc ?_
    refine RU.blk (C' := (23, [some (.ref r0), some (.int p0), some (.int p1)], [.int (0)], σ)) 1 rfl ?_
    obtain ⟨rfl, rfl⟩ := ret_inj h
    exact RU.ret rfl rfl rfl
  · refine RU.ff hc ?_
    refine RU.blk (C' := (bif cLt p1 0 then 22 else 8, [some (.ref r0), some (.int p0), some (.int p1)], [], σ)) 2 rfl ?_
    rcases cnd_some h with ⟨hc, h⟩ | ⟨hc, h⟩
    · refine RU.tt hc ?_
      refine RU.blk (C' := (23, [some (.ref r0), some (.int p0), some (.int p1)], [.int (0)], σ)) 1 rfl ?_
      obtain ⟨rfl, rfl⟩ := ret_inj h
      exact RU.ret rfl rfl rfl
    · refine RU.ff hc ?_
      refine RU.blk (C' := (10, [some (.ref r0), some (.int p0), some (.int p1)], [.ref r0, .int p0], σ)) 2 rfl ?_
      refine RU.getf (u := .int (gI σ (64 * r0 + 1))) rfl (sh_lay hr0) rfl rfl ?_
      refine RU.blk (C' := (bif cGt p0 ((gI σ (64 * r0 + 1)) - p1) then 22 else 18, [some (.ref r0), some (.int p0), some (.int p1)], [], σ)) 3 rfl ?_
      rcases cnd_some h with ⟨hc, h⟩ | ⟨hc, h⟩
      · refine RU.tt hc ?_
        refine RU.blk (C' := (23, [some (.ref r0), some (.int p0), some (.int p1)], [.int (0)], σ)) 1 rfl ?_
        obtain ⟨rfl, rfl⟩ := ret_inj h
        exact RU.ret rfl rfl rfl
      · refine RU.ff hc ?_
        refine RU.blk (C' := (23, [some (.ref r0), some (.int p0), some (.int p1)], [.int (1)], σ)) 2 rfl ?_
        obtain ⟨rfl, rfl⟩ := ret_inj h
        exact RU.ret rfl rfl rfl
