/-! the law as a function -/
noncomputable def L_law (L : Nat) (xs : Nat → Int32) : Nat → Int32 → PS → Option (Int32 × PS)
  | 0, _, _ => none
  | n + 1, x3, σ => 
    bif cGt x3 ((Int32.ofNat L) - (7)) then (
      some ((1), σ)
    ) else (
      bif vin x3 L then
      bif decide (((xs (Int32.toNatClampNeg x3)) &&& (31)) = (0)) then (
        bif vin (x3 + (1)) L then
        bif vin (x3 + (2)) L then
        bif vin (x3 + (3)) L then
        bif vin (x3 + (4)) L then
        (F_X4_sea (xs (Int32.toNatClampNeg (x3 + (1)))) (xs (Int32.toNatClampNeg (x3 + (2)))) (xs (Int32.toNatClampNeg (x3 + (3)))) (xs (Int32.toNatClampNeg (x3 + (4)))) σ).bind fun q1 =>
        let v1 := q1.1
        let s1 := q1.2
        bif vin (x3 + (1)) L then
        bif vin (x3 + (2)) L then
        bif vin (x3 + (3)) L then
        bif vin (x3 + (4)) L then
        (F_X5_sea (xs (Int32.toNatClampNeg (x3 + (1)))) (xs (Int32.toNatClampNeg (x3 + (2)))) (xs (Int32.toNatClampNeg (x3 + (3)))) (xs (Int32.toNatClampNeg (x3 + (4)))) s1).bind fun q2 =>
        let v2 := q2.1
        let s2 := q2.2
        bif cEq v1 v2 then (
          L_law L xs n  (x3 + (7)) s2
        ) else (
          some ((0), s2)
        )
        else none
        else none
        else none
        else none
        else none
        else none
        else none
        else none
      ) else (
        bif decide (((xs (Int32.toNatClampNeg x3)) &&& (31)) = (1)) then (
          bif vin (x3 + (1)) L then
          bif vin (x3 + (2)) L then
          (F_X4_ofLooker (xs (Int32.toNatClampNeg (x3 + (1)))) (xs (Int32.toNatClampNeg (x3 + (2)))) σ).bind fun q3 =>
          let v3 := q3.1
          let s3 := q3.2
          bif vin (x3 + (1)) L then
          bif vin (x3 + (2)) L then
          (F_X5_ofLooker (xs (Int32.toNatClampNeg (x3 + (1)))) (xs (Int32.toNatClampNeg (x3 + (2)))) s3).bind fun q4 =>
          let v4 := q4.1
          let s4 := q4.2
          bif cEq v3 v4 then (
            L_law L xs n  (x3 + (7)) s4
          ) else (
            some ((0), s4)
          )
          else none
          else none
          else none
          else none
        ) else (
          bif decide (((xs (Int32.toNatClampNeg x3)) &&& (31)) = (2)) then (
            bif vin (x3 + (1)) L then
            (F_X4_height (xs (Int32.toNatClampNeg (x3 + (1)))) σ).bind fun q5 =>
            let v5 := q5.1
            let s5 := q5.2
            bif vin (x3 + (1)) L then
            (F_X5_height (xs (Int32.toNatClampNeg (x3 + (1)))) s5).bind fun q6 =>
            let v6 := q6.1
            let s6 := q6.2
            bif cEq v5 v6 then (
              L_law L xs n  (x3 + (7)) s6
            ) else (
              some ((0), s6)
            )
            else none
            else none
          ) else (
            bif decide (((xs (Int32.toNatClampNeg x3)) &&& (31)) = (3)) then (
              bif vin (x3 + (1)) L then
              bif vin (x3 + (2)) L then
              (F_X4_heap (xs (Int32.toNatClampNeg (x3 + (1)))) (xs (Int32.toNatClampNeg (x3 + (2)))) σ).bind fun q7 =>
              let v7 := q7.1
              let s7 := q7.2
              bif vin (x3 + (1)) L then
              bif vin (x3 + (2)) L then
              (F_X5_heap (xs (Int32.toNatClampNeg (x3 + (1)))) (xs (Int32.toNatClampNeg (x3 + (2)))) s7).bind fun q8 =>
              let v8 := q8.1
              let s8 := q8.2
              bif cEq v7 v8 then (
                L_law L xs n  (x3 + (7)) s8
              ) else (
                some ((0), s8)
              )
              else none
              else none
              else none
              else none
            ) else (
              bif decide (((xs (Int32.toNatClampNeg x3)) &&& (31)) = (4)) then (
                bif vin (x3 + (1)) L then
                bif vin (x3 + (2)) L then
                (F_X4_dim (xs (Int32.toNatClampNeg (x3 + (1)))) (xs (Int32.toNatClampNeg (x3 + (2)))) σ).bind fun q9 =>
                let v9 := q9.1
                let s9 := q9.2
                bif vin (x3 + (1)) L then
                bif vin (x3 + (2)) L then
                (F_X5_dim (xs (Int32.toNatClampNeg (x3 + (1)))) (xs (Int32.toNatClampNeg (x3 + (2)))) s9).bind fun q10 =>
                let v10 := q10.1
                let s10 := q10.2
                bif cEq v9 v10 then (
                  L_law L xs n  (x3 + (7)) s10
                ) else (
                  some ((0), s10)
                )
                else none
                else none
                else none
                else none
              ) else (
                bif decide (((xs (Int32.toNatClampNeg x3)) &&& (31)) = (5)) then (
                  bif vin (x3 + (1)) L then
                  (F_X4_scrape (xs (Int32.toNatClampNeg (x3 + (1)))) σ).bind fun q11 =>
                  let v11 := q11.1
                  let s11 := q11.2
                  bif vin (x3 + (1)) L then
                  (F_X5_scrape (xs (Int32.toNatClampNeg (x3 + (1)))) s11).bind fun q12 =>
                  let v12 := q12.1
                  let s12 := q12.2
                  bif cEq v11 v12 then (
                    L_law L xs n  (x3 + (7)) s12
                  ) else (
                    some ((0), s12)
                  )
                  else none
                  else none
                ) else (
                  bif decide (((xs (Int32.toNatClampNeg x3)) &&& (31)) = (6)) then (
                    bif vin (x3 + (1)) L then
                    (F_X4_grow (xs (Int32.toNatClampNeg (x3 + (1)))) σ).bind fun q13 =>
                    let v13 := q13.1
                    let s13 := q13.2
                    bif vin (x3 + (1)) L then
                    (F_X5_grow (xs (Int32.toNatClampNeg (x3 + (1)))) s13).bind fun q14 =>
                    let v14 := q14.1
                    let s14 := q14.2
                    bif cEq v13 v14 then (
                      L_law L xs n  (x3 + (7)) s14
                    ) else (
                      some ((0), s14)
                    )
                    else none
                    else none
                  ) else (
                    bif decide (((xs (Int32.toNatClampNeg x3)) &&& (31)) = (7)) then (
                      (F_X4_seen σ).bind fun q15 =>
                      let v15 := q15.1
                      let s15 := q15.2
                      (F_X5_seen s15).bind fun q16 =>
                      let v16 := q16.1
                      let s16 := q16.2
                      bif cEq (lg_cmp v15 v16) 0 then (
                        L_law L xs n  (x3 + (7)) s16
                      ) else (
                        some ((0), s16)
                      )
                    ) else (
                      bif decide (((xs (Int32.toNatClampNeg x3)) &&& (31)) = (8)) then (
                        bif vin (x3 + (1)) L then
                        (F_X4_step (xs (Int32.toNatClampNeg (x3 + (1)))) σ).bind fun q17 =>
                        let v17 := q17.1
                        let s17 := q17.2
                        bif vin (x3 + (1)) L then
                        (F_X5_step (xs (Int32.toNatClampNeg (x3 + (1)))) s17).bind fun q18 =>
                        let v18 := q18.1
                        let s18 := q18.2
                        bif cEq v17 v18 then (
                          L_law L xs n  (x3 + (7)) s18
                        ) else (
                          some ((0), s18)
                        )
                        else none
                        else none
                      ) else (
                        bif decide (((xs (Int32.toNatClampNeg x3)) &&& (31)) = (9)) then (
                          bif vin (x3 + (1)) L then
                          bif vin (x3 + (2)) L then
                          bif vin (x3 + (3)) L then
                          bif vin (x3 + (4)) L then
                          bif vin (x3 + (5)) L then
                          (F_X4_voyage (xs (Int32.toNatClampNeg (x3 + (1)))) (xs (Int32.toNatClampNeg (x3 + (2)))) (xs (Int32.toNatClampNeg (x3 + (3)))) (xs (Int32.toNatClampNeg (x3 + (4)))) (xs (Int32.toNatClampNeg (x3 + (5)))) σ).bind fun q19 =>
                          let v19 := q19.1
                          let s19 := q19.2
                          bif vin (x3 + (1)) L then
                          bif vin (x3 + (2)) L then
                          bif vin (x3 + (3)) L then
                          bif vin (x3 + (4)) L then
                          bif vin (x3 + (5)) L then
                          (F_X5_voyage (xs (Int32.toNatClampNeg (x3 + (1)))) (xs (Int32.toNatClampNeg (x3 + (2)))) (xs (Int32.toNatClampNeg (x3 + (3)))) (xs (Int32.toNatClampNeg (x3 + (4)))) (xs (Int32.toNatClampNeg (x3 + (5)))) s19).bind fun q20 =>
                          let v20 := q20.1
                          let s20 := q20.2
                          bif cEq v19 v20 then (
                            L_law L xs n  (x3 + (7)) s20
                          ) else (
                            some ((0), s20)
                          )
                          else none
                          else none
                          else none
                          else none
                          else none
                          else none
                          else none
                          else none
                          else none
                          else none
                        ) else (
                          bif decide (((xs (Int32.toNatClampNeg x3)) &&& (31)) = (10)) then (
                            bif vin (x3 + (1)) L then
                            bif vin (x3 + (2)) L then
                            (F_X4_way (xs (Int32.toNatClampNeg (x3 + (1)))) (xs (Int32.toNatClampNeg (x3 + (2)))) σ).bind fun q21 =>
                            let v21 := q21.1
                            let s21 := q21.2
                            bif vin (x3 + (1)) L then
                            bif vin (x3 + (2)) L then
                            (F_X5_way (xs (Int32.toNatClampNeg (x3 + (1)))) (xs (Int32.toNatClampNeg (x3 + (2)))) s21).bind fun q22 =>
                            let v22 := q22.1
                            let s22 := q22.2
                            bif cEq v21 v22 then (
                              L_law L xs n  (x3 + (7)) s22
                            ) else (
                              some ((0), s22)
                            )
                            else none
                            else none
                            else none
                            else none
                          ) else (
                            bif decide (((xs (Int32.toNatClampNeg x3)) &&& (31)) = (11)) then (
                              bif vin (x3 + (1)) L then
                              bif vin (x3 + (2)) L then
                              (F_X4_most (xs (Int32.toNatClampNeg (x3 + (1)))) (xs (Int32.toNatClampNeg (x3 + (2)))) σ).bind fun q23 =>
                              let v23 := q23.1
                              let s23 := q23.2
                              bif vin (x3 + (1)) L then
                              bif vin (x3 + (2)) L then
                              (F_X5_most (xs (Int32.toNatClampNeg (x3 + (1)))) (xs (Int32.toNatClampNeg (x3 + (2)))) s23).bind fun q24 =>
                              let v24 := q24.1
                              let s24 := q24.2
                              bif cEq v23 v24 then (
                                L_law L xs n  (x3 + (7)) s24
                              ) else (
                                some ((0), s24)
                              )
                              else none
                              else none
                              else none
                              else none
                            ) else (
                              bif decide (((xs (Int32.toNatClampNeg x3)) &&& (31)) = (12)) then (
                                bif vin (x3 + (1)) L then
                                (F_X4_flat (xs (Int32.toNatClampNeg (x3 + (1)))) σ).bind fun q25 =>
                                let v25 := q25.1
                                let s25 := q25.2
                                bif vin (x3 + (1)) L then
                                (F_X5_flat (xs (Int32.toNatClampNeg (x3 + (1)))) s25).bind fun q26 =>
                                let v26 := q26.1
                                let s26 := q26.2
                                bif cEq v25 v26 then (
                                  L_law L xs n  (x3 + (7)) s26
                                ) else (
                                  some ((0), s26)
                                )
                                else none
                                else none
                              ) else (
                                bif decide (((xs (Int32.toNatClampNeg x3)) &&& (31)) = (13)) then (
                                  bif vin (x3 + (1)) L then
                                  bif vin (x3 + (2)) L then
                                  bif vin (x3 + (3)) L then
                                  bif vin (x3 + (4)) L then
                                  bif vin (x3 + (5)) L then
                                  bif vin (x3 + (6)) L then
                                  (F_X4_begun (xs (Int32.toNatClampNeg (x3 + (1)))) (xs (Int32.toNatClampNeg (x3 + (2)))) (xs (Int32.toNatClampNeg (x3 + (3)))) (xs (Int32.toNatClampNeg (x3 + (4)))) (xs (Int32.toNatClampNeg (x3 + (5)))) (xs (Int32.toNatClampNeg (x3 + (6)))) σ).bind fun q27 =>
                                  let v27 := q27.1
                                  let s27 := q27.2
                                  bif vin (x3 + (1)) L then
                                  bif vin (x3 + (2)) L then
                                  bif vin (x3 + (3)) L then
                                  bif vin (x3 + (4)) L then
                                  bif vin (x3 + (5)) L then
                                  bif vin (x3 + (6)) L then
                                  (F_X5_begun (xs (Int32.toNatClampNeg (x3 + (1)))) (xs (Int32.toNatClampNeg (x3 + (2)))) (xs (Int32.toNatClampNeg (x3 + (3)))) (xs (Int32.toNatClampNeg (x3 + (4)))) (xs (Int32.toNatClampNeg (x3 + (5)))) (xs (Int32.toNatClampNeg (x3 + (6)))) s27).bind fun q28 =>
                                  let v28 := q28.1
                                  let s28 := q28.2
                                  bif cEq v27 v28 then (
                                    L_law L xs n  (x3 + (7)) s28
                                  ) else (
                                    some ((0), s28)
                                  )
                                  else none
                                  else none
                                  else none
                                  else none
                                  else none
                                  else none
                                  else none
                                  else none
                                  else none
                                  else none
                                  else none
                                  else none
                                ) else (
                                  bif decide (((xs (Int32.toNatClampNeg x3)) &&& (31)) = (14)) then (
                                    bif vin (x3 + (1)) L then
                                    bif vin (x3 + (2)) L then
                                    bif vin (x3 + (3)) L then
                                    bif vin (x3 + (4)) L then
                                    bif vin (x3 + (5)) L then
                                    (F_X4_run (xs (Int32.toNatClampNeg (x3 + (1)))) (xs (Int32.toNatClampNeg (x3 + (2)))) (xs (Int32.toNatClampNeg (x3 + (3)))) (xs (Int32.toNatClampNeg (x3 + (4)))) (xs (Int32.toNatClampNeg (x3 + (5)))) σ).bind fun q29 =>
                                    let v29 := q29.1
                                    let s29 := q29.2
                                    bif vin (x3 + (1)) L then
                                    bif vin (x3 + (2)) L then
                                    bif vin (x3 + (3)) L then
                                    bif vin (x3 + (4)) L then
                                    bif vin (x3 + (5)) L then
                                    (F_X5_run (xs (Int32.toNatClampNeg (x3 + (1)))) (xs (Int32.toNatClampNeg (x3 + (2)))) (xs (Int32.toNatClampNeg (x3 + (3)))) (xs (Int32.toNatClampNeg (x3 + (4)))) (xs (Int32.toNatClampNeg (x3 + (5)))) s29).bind fun q30 =>
                                    let v30 := q30.1
                                    let s30 := q30.2
                                    bif cEq v29 v30 then (
                                      L_law L xs n  (x3 + (7)) s30
                                    ) else (
                                      some ((0), s30)
                                    )
                                    else none
                                    else none
                                    else none
                                    else none
                                    else none
                                    else none
                                    else none
                                    else none
                                    else none
                                    else none
                                  ) else (
                                    bif decide (((xs (Int32.toNatClampNeg x3)) &&& (31)) = (15)) then (
                                      bif vin (x3 + (1)) L then
                                      bif vin (x3 + (2)) L then
                                      bif vin (x3 + (3)) L then
                                      (F_X4_reading (xs (Int32.toNatClampNeg (x3 + (1)))) (xs (Int32.toNatClampNeg (x3 + (2)))) (xs (Int32.toNatClampNeg (x3 + (3)))) σ).bind fun q31 =>
                                      let v31 := q31.1
                                      let s31 := q31.2
                                      bif vin (x3 + (1)) L then
                                      bif vin (x3 + (2)) L then
                                      bif vin (x3 + (3)) L then
                                      (F_X5_reading (xs (Int32.toNatClampNeg (x3 + (1)))) (xs (Int32.toNatClampNeg (x3 + (2)))) (xs (Int32.toNatClampNeg (x3 + (3)))) s31).bind fun q32 =>
                                      let v32 := q32.1
                                      let s32 := q32.2
                                      bif cEq v31 v32 then (
                                        L_law L xs n  (x3 + (7)) s32
                                      ) else (
                                        some ((0), s32)
                                      )
                                      else none
                                      else none
                                      else none
                                      else none
                                      else none
                                      else none
                                    ) else (
                                      bif decide (((xs (Int32.toNatClampNeg x3)) &&& (31)) = (16)) then (
                                        bif vin (x3 + (1)) L then
                                        (F_X4_back (xs (Int32.toNatClampNeg (x3 + (1)))) σ).bind fun q33 =>
                                        let v33 := q33.1
                                        let s33 := q33.2
                                        bif vin (x3 + (1)) L then
                                        (F_X5_back (xs (Int32.toNatClampNeg (x3 + (1)))) s33).bind fun q34 =>
                                        let v34 := q34.1
                                        let s34 := q34.2
                                        bif cEq v33 v34 then (
                                          L_law L xs n  (x3 + (7)) s34
                                        ) else (
                                          some ((0), s34)
                                        )
                                        else none
                                        else none
                                      ) else (
                                        bif decide (((xs (Int32.toNatClampNeg x3)) &&& (31)) = (17)) then (
                                          bif vin (x3 + (1)) L then
                                          (F_X4_shorts (xs (Int32.toNatClampNeg (x3 + (1)))) σ).bind fun q35 =>
                                          let v35 := q35.1
                                          let s35 := q35.2
                                          bif vin (x3 + (1)) L then
                                          (F_X5_shorts (xs (Int32.toNatClampNeg (x3 + (1)))) s35).bind fun q36 =>
                                          let v36 := q36.1
                                          let s36 := q36.2
                                          bif cEq v35 v36 then (
                                            L_law L xs n  (x3 + (7)) s36
                                          ) else (
                                            some ((0), s36)
                                          )
                                          else none
                                          else none
                                        ) else (
                                          bif decide (((xs (Int32.toNatClampNeg x3)) &&& (31)) = (18)) then (
                                            bif vin (x3 + (1)) L then
                                            (F_X4_kinds (xs (Int32.toNatClampNeg (x3 + (1)))) σ).bind fun q37 =>
                                            let v37 := q37.1
                                            let s37 := q37.2
                                            bif vin (x3 + (1)) L then
                                            (F_X5_kinds (xs (Int32.toNatClampNeg (x3 + (1)))) s37).bind fun q38 =>
                                            let v38 := q38.1
                                            let s38 := q38.2
                                            bif cEq v37 v38 then (
                                              L_law L xs n  (x3 + (7)) s38
                                            ) else (
                                              some ((0), s38)
                                            )
                                            else none
                                            else none
                                          ) else (
                                            bif decide (((xs (Int32.toNatClampNeg x3)) &&& (31)) = (19)) then (
                                              bif vin (x3 + (1)) L then
                                              bif vin (x3 + (2)) L then
                                              bif vin (x3 + (3)) L then
                                              (F_X4_odds (xs (Int32.toNatClampNeg (x3 + (1)))) (xs (Int32.toNatClampNeg (x3 + (2)))) (xs (Int32.toNatClampNeg (x3 + (3)))) σ).bind fun q39 =>
                                              let v39 := q39.1
                                              let s39 := q39.2
                                              bif vin (x3 + (1)) L then
                                              bif vin (x3 + (2)) L then
                                              bif vin (x3 + (3)) L then
                                              (F_X5_odds (xs (Int32.toNatClampNeg (x3 + (1)))) (xs (Int32.toNatClampNeg (x3 + (2)))) (xs (Int32.toNatClampNeg (x3 + (3)))) s39).bind fun q40 =>
                                              let v40 := q40.1
                                              let s40 := q40.2
                                              bif cEq (lg_cmp v39 v40) 0 then (
                                                L_law L xs n  (x3 + (7)) s40
                                              ) else (
                                                some ((0), s40)
                                              )
                                              else none
                                              else none
                                              else none
                                              else none
                                              else none
                                              else none
                                            ) else (
                                              bif decide (((xs (Int32.toNatClampNeg x3)) &&& (31)) = (20)) then (
                                                bif vin (x3 + (1)) L then
                                                bif vin (x3 + (2)) L then
                                                bif vin (x3 + (3)) L then
                                                (F_X4_sheet (xs (Int32.toNatClampNeg (x3 + (1)))) (xs (Int32.toNatClampNeg (x3 + (2)))) (xs (Int32.toNatClampNeg (x3 + (3)))) σ).bind fun q41 =>
                                                let v41 := q41.1
                                                let s41 := q41.2
                                                bif vin (x3 + (1)) L then
                                                bif vin (x3 + (2)) L then
                                                bif vin (x3 + (3)) L then
                                                (F_X5_sheet (xs (Int32.toNatClampNeg (x3 + (1)))) (xs (Int32.toNatClampNeg (x3 + (2)))) (xs (Int32.toNatClampNeg (x3 + (3)))) s41).bind fun q42 =>
                                                let v42 := q42.1
                                                let s42 := q42.2
                                                bif cEq v41 v42 then (
                                                  L_law L xs n  (x3 + (7)) s42
                                                ) else (
                                                  some ((0), s42)
                                                )
                                                else none
                                                else none
                                                else none
                                                else none
                                                else none
                                                else none
                                              ) else (
                                                bif decide (((xs (Int32.toNatClampNeg x3)) &&& (31)) = (21)) then (
                                                  bif vin (x3 + (1)) L then
                                                  (F_X4_lose (xs (Int32.toNatClampNeg (x3 + (1)))) σ).bind fun q43 =>
                                                  let v43 := q43.1
                                                  let s43 := q43.2
                                                  bif vin (x3 + (1)) L then
                                                  (F_X5_lose (xs (Int32.toNatClampNeg (x3 + (1)))) s43).bind fun q44 =>
                                                  let v44 := q44.1
                                                  let s44 := q44.2
                                                  bif cEq v43 v44 then (
                                                    L_law L xs n  (x3 + (7)) s44
                                                  ) else (
                                                    some ((0), s44)
                                                  )
                                                  else none
                                                  else none
                                                ) else (
                                                  bif decide (((xs (Int32.toNatClampNeg x3)) &&& (31)) = (22)) then (
                                                    bif vin (x3 + (1)) L then
                                                    bif vin (x3 + (2)) L then
                                                    bif vin (x3 + (3)) L then
                                                    (F_X4_put (xs (Int32.toNatClampNeg (x3 + (1)))) (xs (Int32.toNatClampNeg (x3 + (2)))) (xs (Int32.toNatClampNeg (x3 + (3)))) σ).bind fun q45 =>
                                                    let v45 := q45.1
                                                    let s45 := q45.2
                                                    bif vin (x3 + (1)) L then
                                                    bif vin (x3 + (2)) L then
                                                    bif vin (x3 + (3)) L then
                                                    (F_X5_put (xs (Int32.toNatClampNeg (x3 + (1)))) (xs (Int32.toNatClampNeg (x3 + (2)))) (xs (Int32.toNatClampNeg (x3 + (3)))) s45).bind fun q46 =>
                                                    let v46 := q46.1
                                                    let s46 := q46.2
                                                    bif cEq v45 v46 then (
                                                      L_law L xs n  (x3 + (7)) s46
                                                    ) else (
                                                      some ((0), s46)
                                                    )
                                                    else none
                                                    else none
                                                    else none
                                                    else none
                                                    else none
                                                    else none
                                                  ) else (
                                                    bif decide (((xs (Int32.toNatClampNeg x3)) &&& (31)) = (23)) then (
                                                      bif vin (x3 + (1)) L then
                                                      bif vin (x3 + (2)) L then
                                                      bif vin (x3 + (3)) L then
                                                      (F_X4_cell (xs (Int32.toNatClampNeg (x3 + (1)))) (xs (Int32.toNatClampNeg (x3 + (2)))) (xs (Int32.toNatClampNeg (x3 + (3)))) σ).bind fun q47 =>
                                                      let v47 := q47.1
                                                      let s47 := q47.2
                                                      bif vin (x3 + (1)) L then
                                                      bif vin (x3 + (2)) L then
                                                      bif vin (x3 + (3)) L then
                                                      (F_X5_cell (xs (Int32.toNatClampNeg (x3 + (1)))) (xs (Int32.toNatClampNeg (x3 + (2)))) (xs (Int32.toNatClampNeg (x3 + (3)))) s47).bind fun q48 =>
                                                      let v48 := q48.1
                                                      let s48 := q48.2
                                                      bif cEq (lg_cmp v47 v48) 0 then (
                                                        L_law L xs n  (x3 + (7)) s48
                                                      ) else (
                                                        some ((0), s48)
                                                      )
                                                      else none
                                                      else none
                                                      else none
                                                      else none
                                                      else none
                                                      else none
                                                    ) else (
                                                      bif decide (((xs (Int32.toNatClampNeg x3)) &&& (31)) = (24)) then (
                                                        bif vin (x3 + (1)) L then
                                                        bif vin (x3 + (2)) L then
                                                        bif vin (x3 + (3)) L then
                                                        bif vin (x3 + (4)) L then
                                                        bif vin (x3 + (5)) L then
                                                        (F_X4_copy (xs (Int32.toNatClampNeg (x3 + (1)))) (xs (Int32.toNatClampNeg (x3 + (2)))) (xs (Int32.toNatClampNeg (x3 + (3)))) (xs (Int32.toNatClampNeg (x3 + (4)))) (xs (Int32.toNatClampNeg (x3 + (5)))) σ).bind fun q49 =>
                                                        let v49 := q49.1
                                                        let s49 := q49.2
                                                        bif vin (x3 + (1)) L then
                                                        bif vin (x3 + (2)) L then
                                                        bif vin (x3 + (3)) L then
                                                        bif vin (x3 + (4)) L then
                                                        bif vin (x3 + (5)) L then
                                                        (F_X5_copy (xs (Int32.toNatClampNeg (x3 + (1)))) (xs (Int32.toNatClampNeg (x3 + (2)))) (xs (Int32.toNatClampNeg (x3 + (3)))) (xs (Int32.toNatClampNeg (x3 + (4)))) (xs (Int32.toNatClampNeg (x3 + (5)))) s49).bind fun q50 =>
                                                        let v50 := q50.1
                                                        let s50 := q50.2
                                                        bif cEq v49 v50 then (
                                                          L_law L xs n  (x3 + (7)) s50
                                                        ) else (
                                                          some ((0), s50)
                                                        )
                                                        else none
                                                        else none
                                                        else none
                                                        else none
                                                        else none
                                                        else none
                                                        else none
                                                        else none
                                                        else none
                                                        else none
                                                      ) else (
                                                        bif decide (((xs (Int32.toNatClampNeg x3)) &&& (31)) = (25)) then (
                                                          bif vin (x3 + (1)) L then
                                                          (F_X4_tell (xs (Int32.toNatClampNeg (x3 + (1)))) σ).bind fun q51 =>
                                                          let v51 := q51.1
                                                          let s51 := q51.2
                                                          bif vin (x3 + (1)) L then
                                                          (F_X5_tell (xs (Int32.toNatClampNeg (x3 + (1)))) s51).bind fun q52 =>
                                                          let v52 := q52.1
                                                          let s52 := q52.2
                                                          bif cEq v51 v52 then (
                                                            L_law L xs n  (x3 + (7)) s52
                                                          ) else (
                                                            some ((0), s52)
                                                          )
                                                          else none
                                                          else none
                                                        ) else (
                                                          bif decide (((xs (Int32.toNatClampNeg x3)) &&& (31)) = (26)) then (
                                                            bif vin (x3 + (1)) L then
                                                            (F_X4_greet (xs (Int32.toNatClampNeg (x3 + (1)))) σ).bind fun q53 =>
                                                            let v53 := q53.1
                                                            let s53 := q53.2
                                                            bif vin (x3 + (1)) L then
                                                            (F_X5_greet (xs (Int32.toNatClampNeg (x3 + (1)))) s53).bind fun q54 =>
                                                            let v54 := q54.1
                                                            let s54 := q54.2
                                                            bif cEq v53 v54 then (
                                                              L_law L xs n  (x3 + (7)) s54
                                                            ) else (
                                                              some ((0), s54)
                                                            )
                                                            else none
                                                            else none
                                                          ) else (
                                                            bif decide (((xs (Int32.toNatClampNeg x3)) &&& (31)) = (27)) then (
                                                              bif vin (x3 + (1)) L then
                                                              bif vin (x3 + (2)) L then
                                                              (F_X4_as (xs (Int32.toNatClampNeg (x3 + (1)))) (xs (Int32.toNatClampNeg (x3 + (2)))) σ).bind fun q55 =>
                                                              let v55 := q55.1
                                                              let s55 := q55.2
                                                              bif vin (x3 + (1)) L then
                                                              bif vin (x3 + (2)) L then
                                                              (F_X5_as (xs (Int32.toNatClampNeg (x3 + (1)))) (xs (Int32.toNatClampNeg (x3 + (2)))) s55).bind fun q56 =>
                                                              let v56 := q56.1
                                                              let s56 := q56.2
                                                              bif cEq v55 v56 then (
                                                                L_law L xs n  (x3 + (7)) s56
                                                              ) else (
                                                                some ((0), s56)
                                                              )
                                                              else none
                                                              else none
                                                              else none
                                                              else none
                                                            ) else (
                                                              bif decide (((xs (Int32.toNatClampNeg x3)) &&& (31)) = (28)) then (
                                                                (F_X4_trace σ).bind fun q57 =>
                                                                let v57 := q57.1
                                                                let s57 := q57.2
                                                                (F_X5_trace s57).bind fun q58 =>
                                                                let v58 := q58.1
                                                                let s58 := q58.2
                                                                bif cEq v57 v58 then (
                                                                  L_law L xs n  (x3 + (7)) s58
                                                                ) else (
                                                                  some ((0), s58)
                                                                )
                                                              ) else (
                                                                bif decide (((xs (Int32.toNatClampNeg x3)) &&& (31)) = (29)) then (
                                                                  (F_X4_fault σ).bind fun q59 =>
                                                                  let v59 := q59.1
                                                                  let s59 := q59.2
                                                                  (F_X5_fault s59).bind fun q60 =>
                                                                  let v60 := q60.1
                                                                  let s60 := q60.2
                                                                  bif cEq v59 v60 then (
                                                                    L_law L xs n  (x3 + (7)) s60
                                                                  ) else (
                                                                    some ((0), s60)
                                                                  )
                                                                ) else (
                                                                  bif decide (((xs (Int32.toNatClampNeg x3)) &&& (31)) = (30)) then (
                                                                    bif vin (x3 + (1)) L then
                                                                    (F_X4_many (xs (Int32.toNatClampNeg (x3 + (1)))) σ).bind fun q61 =>
                                                                    let v61 := q61.1
                                                                    let s61 := q61.2
                                                                    bif vin (x3 + (1)) L then
                                                                    (F_X5_many (xs (Int32.toNatClampNeg (x3 + (1)))) s61).bind fun q62 =>
                                                                    let v62 := q62.1
                                                                    let s62 := q62.2
                                                                    bif cEq v61 v62 then (
                                                                      L_law L xs n  (x3 + (7)) s62
                                                                    ) else (
                                                                      some ((0), s62)
                                                                    )
                                                                    else none
                                                                    else none
                                                                  ) else (
                                                                    L_law L xs n  (x3 + (7)) σ
                                                                  )
                                                                )
                                                              )
                                                            )
                                                          )
                                                        )
                                                      )
                                                    )
                                                  )
                                                )
                                              )
                                            )
                                          )
                                        )
                                      )
                                    )
                                  )
                                )
                              )
                            )
                          )
                        )
                      )
                    )
                  )
                )
              )
            )
          )
        )
      )
      else none
    )
set_option maxRecDepth 50000 in
set_option maxHeartbeats 16000000 in
theorem ml_law (L : Nat) (xs : Nat → Int32) (n : Nat) : (∀ (x3 : Int32) (σ : PS) (v : Int32) (σ' : PS), L_law L xs n x3 σ = some (v, σ') → RU (ubL L xs) 9 348 (18, [some (.float 0), some (.ref 0), some (.ref 19), some (.int x3)], [], σ) (some (.int v)) σ') := by
  induction n with
  | zero =>
    intro x3 σ v σ' h; exact absurd (show (none : Option (Int32 × PS)) = some (v, σ') from h) (by simp)
  | succ n ih =>
    intro x3 σ v σ' h
    rw [L_law] at h
    refine RU.blk (C' := (bif cGt x3 ((Int32.ofNat L) - (7)) then 1226 else 27, [some (.float 0), some (.ref 0), some (.ref 19), some (.int x3)], [], σ)) 6 rfl ?_
    rcases cnd_some h with ⟨hc, h⟩ | ⟨hc, h⟩
    · refine RU.tt hc ?_
      refine RU.blk (C' := (1227, [some (.float 0), some (.ref 0), some (.ref 19), some (.int x3)], [.int (1)], σ)) 1 rfl ?_
      obtain ⟨rfl, rfl⟩ := ret_inj h
      exact RU.ret rfl rfl rfl
    · refine RU.ff hc ?_
      refine RU.blk (C' := (29, [some (.float 0), some (.ref 0), some (.ref 19), some (.int x3)], [.int x3, .float 0], σ)) 2 rfl ?_
      obtain ⟨hv, h⟩ := cnd_n h
      refine RU.sld rfl hv ?_
      refine RU.blk (C' := (bif decide (((xs (Int32.toNatClampNeg x3)) &&& (31)) = (0)) then 172 else (bif decide (((xs (Int32.toNatClampNeg x3)) &&& (31)) = (1)) then 225 else (bif decide (((xs (Int32.toNatClampNeg x3)) &&& (31)) = (2)) then 258 else (bif decide (((xs (Int32.toNatClampNeg x3)) &&& (31)) = (3)) then 281 else (bif decide (((xs (Int32.toNatClampNeg x3)) &&& (31)) = (4)) then 314 else (bif decide (((xs (Int32.toNatClampNeg x3)) &&& (31)) = (5)) then 347 else (bif decide (((xs (Int32.toNatClampNeg x3)) &&& (31)) = (6)) then 370 else (bif decide (((xs (Int32.toNatClampNeg x3)) &&& (31)) = (7)) then 393 else (bif decide (((xs (Int32.toNatClampNeg x3)) &&& (31)) = (8)) then 407 else (bif decide (((xs (Int32.toNatClampNeg x3)) &&& (31)) = (9)) then 430 else (bif decide (((xs (Int32.toNatClampNeg x3)) &&& (31)) = (10)) then 493 else (bif decide (((xs (Int32.toNatClampNeg x3)) &&& (31)) = (11)) then 526 else (bif decide (((xs (Int32.toNatClampNeg x3)) &&& (31)) = (12)) then 559 else (bif decide (((xs (Int32.toNatClampNeg x3)) &&& (31)) = (13)) then 582 else (bif decide (((xs (Int32.toNatClampNeg x3)) &&& (31)) = (14)) then 657 else (bif decide (((xs (Int32.toNatClampNeg x3)) &&& (31)) = (15)) then 720 else (bif decide (((xs (Int32.toNatClampNeg x3)) &&& (31)) = (16)) then 763 else (bif decide (((xs (Int32.toNatClampNeg x3)) &&& (31)) = (17)) then 786 else (bif decide (((xs (Int32.toNatClampNeg x3)) &&& (31)) = (18)) then 809 else (bif decide (((xs (Int32.toNatClampNeg x3)) &&& (31)) = (19)) then 832 else (bif decide (((xs (Int32.toNatClampNeg x3)) &&& (31)) = (20)) then 876 else (bif decide (((xs (Int32.toNatClampNeg x3)) &&& (31)) = (21)) then 919 else (bif decide (((xs (Int32.toNatClampNeg x3)) &&& (31)) = (22)) then 942 else (bif decide (((xs (Int32.toNatClampNeg x3)) &&& (31)) = (23)) then 985 else (bif decide (((xs (Int32.toNatClampNeg x3)) &&& (31)) = (24)) then 1029 else (bif decide (((xs (Int32.toNatClampNeg x3)) &&& (31)) = (25)) then 1092 else (bif decide (((xs (Int32.toNatClampNeg x3)) &&& (31)) = (26)) then 1115 else (bif decide (((xs (Int32.toNatClampNeg x3)) &&& (31)) = (27)) then 1138 else (bif decide (((xs (Int32.toNatClampNeg x3)) &&& (31)) = (28)) then 1171 else (bif decide (((xs (Int32.toNatClampNeg x3)) &&& (31)) = (29)) then 1184 else (bif decide (((xs (Int32.toNatClampNeg x3)) &&& (31)) = (30)) then 1197 else 1220)))))))))))))))))))))))))))))), [some (.float 0), some (.ref 0), some (.ref 19), some (.int x3)], [], σ)) 3 rfl ?_
      rcases cnd_some h with ⟨hc, h⟩ | ⟨hc, h⟩
      · refine RU.tt hc ?_
        refine RU.blk (C' := (177, [some (.float 0), some (.ref 0), some (.ref 19), some (.int x3)], [.int (x3 + (1)), .float 0, .ref 0], σ)) 5 rfl ?_
        obtain ⟨hv, h⟩ := cnd_n h
        refine RU.sld rfl hv ?_
        refine RU.blk (C' := (182, [some (.float 0), some (.ref 0), some (.ref 19), some (.int x3)], [.int (x3 + (2)), .float 0, .int (xs (Int32.toNatClampNeg (x3 + (1)))), .ref 0], σ)) 4 rfl ?_
        obtain ⟨hv, h⟩ := cnd_n h
        refine RU.sld rfl hv ?_
        refine RU.blk (C' := (187, [some (.float 0), some (.ref 0), some (.ref 19), some (.int x3)], [.int (x3 + (3)), .float 0, .int (xs (Int32.toNatClampNeg (x3 + (2)))), .int (xs (Int32.toNatClampNeg (x3 + (1)))), .ref 0], σ)) 4 rfl ?_
        obtain ⟨hv, h⟩ := cnd_n h
        refine RU.sld rfl hv ?_
        refine RU.blk (C' := (192, [some (.float 0), some (.ref 0), some (.ref 19), some (.int x3)], [.int (x3 + (4)), .float 0, .int (xs (Int32.toNatClampNeg (x3 + (3)))), .int (xs (Int32.toNatClampNeg (x3 + (2)))), .int (xs (Int32.toNatClampNeg (x3 + (1)))), .ref 0], σ)) 4 rfl ?_
        obtain ⟨hv, h⟩ := cnd_n h
        refine RU.sld rfl hv ?_
        obtain ⟨⟨v1, s1⟩, hk, h⟩ := Option.bind_eq_some_iff.mp h
        dsimp only at h
        refine RU.call (as := [.ref 0, .int (xs (Int32.toNatClampNeg (x3 + (1)))), .int (xs (Int32.toNatClampNeg (x3 + (2)))), .int (xs (Int32.toNatClampNeg (x3 + (3)))), .int (xs (Int32.toNatClampNeg (x3 + (4))))]) (rest := []) (u := some (.int v1)) (C' := (196, [some (.float 0), some (.ref 0), some (.ref 19), some (.int x3)], [.int v1], s1)) rfl rfl (m_X4_sea (xs (Int32.toNatClampNeg (x3 + (1)))) (xs (Int32.toNatClampNeg (x3 + (2)))) (xs (Int32.toNatClampNeg (x3 + (3)))) (xs (Int32.toNatClampNeg (x3 + (4)))) σ hk) rfl rfl ?_
        refine RU.blk (C' := (201, [some (.float 0), some (.ref 0), some (.ref 19), some (.int x3)], [.int (x3 + (1)), .float 0, .ref 19, .int v1], s1)) 5 rfl ?_
        obtain ⟨hv, h⟩ := cnd_n h
        refine RU.sld rfl hv ?_
        refine RU.blk (C' := (206, [some (.float 0), some (.ref 0), some (.ref 19), some (.int x3)], [.int (x3 + (2)), .float 0, .int (xs (Int32.toNatClampNeg (x3 + (1)))), .ref 19, .int v1], s1)) 4 rfl ?_
        obtain ⟨hv, h⟩ := cnd_n h
        refine RU.sld rfl hv ?_
        refine RU.blk (C' := (211, [some (.float 0), some (.ref 0), some (.ref 19), some (.int x3)], [.int (x3 + (3)), .float 0, .int (xs (Int32.toNatClampNeg (x3 + (2)))), .int (xs (Int32.toNatClampNeg (x3 + (1)))), .ref 19, .int v1], s1)) 4 rfl ?_
        obtain ⟨hv, h⟩ := cnd_n h
        refine RU.sld rfl hv ?_
        refine RU.blk (C' := (216, [some (.float 0), some (.ref 0), some (.ref 19), some (.int x3)], [.int (x3 + (4)), .float 0, .int (xs (Int32.toNatClampNeg (x3 + (3)))), .int (xs (Int32.toNatClampNeg (x3 + (2)))), .int (xs (Int32.toNatClampNeg (x3 + (1)))), .ref 19, .int v1], s1)) 4 rfl ?_
        obtain ⟨hv, h⟩ := cnd_n h
        refine RU.sld rfl hv ?_
        obtain ⟨⟨v2, s2⟩, hk, h⟩ := Option.bind_eq_some_iff.mp h
        dsimp only at h
        refine RU.call (as := [.ref 19, .int (xs (Int32.toNatClampNeg (x3 + (1)))), .int (xs (Int32.toNatClampNeg (x3 + (2)))), .int (xs (Int32.toNatClampNeg (x3 + (3)))), .int (xs (Int32.toNatClampNeg (x3 + (4))))]) (rest := [.int v1]) (u := some (.int v2)) (C' := (220, [some (.float 0), some (.ref 0), some (.ref 19), some (.int x3)], [.int v2, .int v1], s2)) rfl rfl (m_X5_sea (xs (Int32.toNatClampNeg (x3 + (1)))) (xs (Int32.toNatClampNeg (x3 + (2)))) (xs (Int32.toNatClampNeg (x3 + (3)))) (xs (Int32.toNatClampNeg (x3 + (4)))) s1 hk) rfl rfl ?_
        refine RU.blk (C' := (bif cEq v1 v2 then 1220 else 223, [some (.float 0), some (.ref 0), some (.ref 19), some (.int x3)], [], s2)) 1 rfl ?_
        rcases cnd_some h with ⟨hc, h⟩ | ⟨hc, h⟩
        · refine RU.tt hc ?_
          refine RU.blk (C' := (18, [some (.float 0), some (.ref 0), some (.ref 19), some (.int (x3 + (7)))], [], s2)) 2 rfl ?_
          exact ih (x3 + (7)) _ _ _ h
        · refine RU.ff hc ?_
          refine RU.blk (C' := (224, [some (.float 0), some (.ref 0), some (.ref 19), some (.int x3)], [.int (0)], s2)) 1 rfl ?_
          obtain ⟨rfl, rfl⟩ := ret_inj h
          exact RU.ret rfl rfl rfl
      · refine RU.ff hc ?_
        rcases cnd_some h with ⟨hc, h⟩ | ⟨hc, h⟩
        · refine RU.tt hc ?_
          refine RU.blk (C' := (230, [some (.float 0), some (.ref 0), some (.ref 19), some (.int x3)], [.int (x3 + (1)), .float 0, .ref 0], σ)) 5 rfl ?_
          obtain ⟨hv, h⟩ := cnd_n h
          refine RU.sld rfl hv ?_
          refine RU.blk (C' := (235, [some (.float 0), some (.ref 0), some (.ref 19), some (.int x3)], [.int (x3 + (2)), .float 0, .int (xs (Int32.toNatClampNeg (x3 + (1)))), .ref 0], σ)) 4 rfl ?_
          obtain ⟨hv, h⟩ := cnd_n h
          refine RU.sld rfl hv ?_
          obtain ⟨⟨v3, s3⟩, hk, h⟩ := Option.bind_eq_some_iff.mp h
          dsimp only at h
          refine RU.call (as := [.ref 0, .int (xs (Int32.toNatClampNeg (x3 + (1)))), .int (xs (Int32.toNatClampNeg (x3 + (2))))]) (rest := []) (u := some (.int v3)) (C' := (239, [some (.float 0), some (.ref 0), some (.ref 19), some (.int x3)], [.int v3], s3)) rfl rfl (m_X4_ofLooker (xs (Int32.toNatClampNeg (x3 + (1)))) (xs (Int32.toNatClampNeg (x3 + (2)))) σ hk) rfl rfl ?_
          refine RU.blk (C' := (244, [some (.float 0), some (.ref 0), some (.ref 19), some (.int x3)], [.int (x3 + (1)), .float 0, .ref 19, .int v3], s3)) 5 rfl ?_
          obtain ⟨hv, h⟩ := cnd_n h
          refine RU.sld rfl hv ?_
          refine RU.blk (C' := (249, [some (.float 0), some (.ref 0), some (.ref 19), some (.int x3)], [.int (x3 + (2)), .float 0, .int (xs (Int32.toNatClampNeg (x3 + (1)))), .ref 19, .int v3], s3)) 4 rfl ?_
          obtain ⟨hv, h⟩ := cnd_n h
          refine RU.sld rfl hv ?_
          obtain ⟨⟨v4, s4⟩, hk, h⟩ := Option.bind_eq_some_iff.mp h
          dsimp only at h
          refine RU.call (as := [.ref 19, .int (xs (Int32.toNatClampNeg (x3 + (1)))), .int (xs (Int32.toNatClampNeg (x3 + (2))))]) (rest := [.int v3]) (u := some (.int v4)) (C' := (253, [some (.float 0), some (.ref 0), some (.ref 19), some (.int x3)], [.int v4, .int v3], s4)) rfl rfl (m_X5_ofLooker (xs (Int32.toNatClampNeg (x3 + (1)))) (xs (Int32.toNatClampNeg (x3 + (2)))) s3 hk) rfl rfl ?_
          refine RU.blk (C' := (bif cEq v3 v4 then 1220 else 256, [some (.float 0), some (.ref 0), some (.ref 19), some (.int x3)], [], s4)) 1 rfl ?_
          rcases cnd_some h with ⟨hc, h⟩ | ⟨hc, h⟩
          · refine RU.tt hc ?_
            refine RU.blk (C' := (18, [some (.float 0), some (.ref 0), some (.ref 19), some (.int (x3 + (7)))], [], s4)) 2 rfl ?_
            exact ih (x3 + (7)) _ _ _ h
          · refine RU.ff hc ?_
            refine RU.blk (C' := (257, [some (.float 0), some (.ref 0), some (.ref 19), some (.int x3)], [.int (0)], s4)) 1 rfl ?_
            obtain ⟨rfl, rfl⟩ := ret_inj h
            exact RU.ret rfl rfl rfl
        · refine RU.ff hc ?_
          rcases cnd_some h with ⟨hc, h⟩ | ⟨hc, h⟩
          · refine RU.tt hc ?_
            refine RU.blk (C' := (263, [some (.float 0), some (.ref 0), some (.ref 19), some (.int x3)], [.int (x3 + (1)), .float 0, .ref 0], σ)) 5 rfl ?_
            obtain ⟨hv, h⟩ := cnd_n h
            refine RU.sld rfl hv ?_
            obtain ⟨⟨v5, s5⟩, hk, h⟩ := Option.bind_eq_some_iff.mp h
            dsimp only at h
            refine RU.call (as := [.ref 0, .int (xs (Int32.toNatClampNeg (x3 + (1))))]) (rest := []) (u := some (.int v5)) (C' := (267, [some (.float 0), some (.ref 0), some (.ref 19), some (.int x3)], [.int v5], s5)) rfl rfl (m_X4_height (xs (Int32.toNatClampNeg (x3 + (1)))) σ hk) rfl rfl ?_
            refine RU.blk (C' := (272, [some (.float 0), some (.ref 0), some (.ref 19), some (.int x3)], [.int (x3 + (1)), .float 0, .ref 19, .int v5], s5)) 5 rfl ?_
            obtain ⟨hv, h⟩ := cnd_n h
            refine RU.sld rfl hv ?_
            obtain ⟨⟨v6, s6⟩, hk, h⟩ := Option.bind_eq_some_iff.mp h
            dsimp only at h
            refine RU.call (as := [.ref 19, .int (xs (Int32.toNatClampNeg (x3 + (1))))]) (rest := [.int v5]) (u := some (.int v6)) (C' := (276, [some (.float 0), some (.ref 0), some (.ref 19), some (.int x3)], [.int v6, .int v5], s6)) rfl rfl (m_X5_height (xs (Int32.toNatClampNeg (x3 + (1)))) s5 hk) rfl rfl ?_
            refine RU.blk (C' := (bif cEq v5 v6 then 1220 else 279, [some (.float 0), some (.ref 0), some (.ref 19), some (.int x3)], [], s6)) 1 rfl ?_
            rcases cnd_some h with ⟨hc, h⟩ | ⟨hc, h⟩
            · refine RU.tt hc ?_
              refine RU.blk (C' := (18, [some (.float 0), some (.ref 0), some (.ref 19), some (.int (x3 + (7)))], [], s6)) 2 rfl ?_
              exact ih (x3 + (7)) _ _ _ h
            · refine RU.ff hc ?_
              refine RU.blk (C' := (280, [some (.float 0), some (.ref 0), some (.ref 19), some (.int x3)], [.int (0)], s6)) 1 rfl ?_
              obtain ⟨rfl, rfl⟩ := ret_inj h
              exact RU.ret rfl rfl rfl
          · refine RU.ff hc ?_
            rcases cnd_some h with ⟨hc, h⟩ | ⟨hc, h⟩
            · refine RU.tt hc ?_
              refine RU.blk (C' := (286, [some (.float 0), some (.ref 0), some (.ref 19), some (.int x3)], [.int (x3 + (1)), .float 0, .ref 0], σ)) 5 rfl ?_
              obtain ⟨hv, h⟩ := cnd_n h
              refine RU.sld rfl hv ?_
              refine RU.blk (C' := (291, [some (.float 0), some (.ref 0), some (.ref 19), some (.int x3)], [.int (x3 + (2)), .float 0, .int (xs (Int32.toNatClampNeg (x3 + (1)))), .ref 0], σ)) 4 rfl ?_
              obtain ⟨hv, h⟩ := cnd_n h
              refine RU.sld rfl hv ?_
              obtain ⟨⟨v7, s7⟩, hk, h⟩ := Option.bind_eq_some_iff.mp h
              dsimp only at h
              refine RU.call (as := [.ref 0, .int (xs (Int32.toNatClampNeg (x3 + (1)))), .int (xs (Int32.toNatClampNeg (x3 + (2))))]) (rest := []) (u := some (.int v7)) (C' := (295, [some (.float 0), some (.ref 0), some (.ref 19), some (.int x3)], [.int v7], s7)) rfl rfl (m_X4_heap (xs (Int32.toNatClampNeg (x3 + (1)))) (xs (Int32.toNatClampNeg (x3 + (2)))) σ hk) rfl rfl ?_
              refine RU.blk (C' := (300, [some (.float 0), some (.ref 0), some (.ref 19), some (.int x3)], [.int (x3 + (1)), .float 0, .ref 19, .int v7], s7)) 5 rfl ?_
              obtain ⟨hv, h⟩ := cnd_n h
              refine RU.sld rfl hv ?_
              refine RU.blk (C' := (305, [some (.float 0), some (.ref 0), some (.ref 19), some (.int x3)], [.int (x3 + (2)), .float 0, .int (xs (Int32.toNatClampNeg (x3 + (1)))), .ref 19, .int v7], s7)) 4 rfl ?_
              obtain ⟨hv, h⟩ := cnd_n h
              refine RU.sld rfl hv ?_
              obtain ⟨⟨v8, s8⟩, hk, h⟩ := Option.bind_eq_some_iff.mp h
              dsimp only at h
              refine RU.call (as := [.ref 19, .int (xs (Int32.toNatClampNeg (x3 + (1)))), .int (xs (Int32.toNatClampNeg (x3 + (2))))]) (rest := [.int v7]) (u := some (.int v8)) (C' := (309, [some (.float 0), some (.ref 0), some (.ref 19), some (.int x3)], [.int v8, .int v7], s8)) rfl rfl (m_X5_heap (xs (Int32.toNatClampNeg (x3 + (1)))) (xs (Int32.toNatClampNeg (x3 + (2)))) s7 hk) rfl rfl ?_
              refine RU.blk (C' := (bif cEq v7 v8 then 1220 else 312, [some (.float 0), some (.ref 0), some (.ref 19), some (.int x3)], [], s8)) 1 rfl ?_
              rcases cnd_some h with ⟨hc, h⟩ | ⟨hc, h⟩
              · refine RU.tt hc ?_
                refine RU.blk (C' := (18, [some (.float 0), some (.ref 0), some (.ref 19), some (.int (x3 + (7)))], [], s8)) 2 rfl ?_
                exact ih (x3 + (7)) _ _ _ h
              · refine RU.ff hc ?_
                refine RU.blk (C' := (313, [some (.float 0), some (.ref 0), some (.ref 19), some (.int x3)], [.int (0)], s8)) 1 rfl ?_
                obtain ⟨rfl, rfl⟩ := ret_inj h
                exact RU.ret rfl rfl rfl
            · refine RU.ff hc ?_
              rcases cnd_some h with ⟨hc, h⟩ | ⟨hc, h⟩
              · refine RU.tt hc ?_
                refine RU.blk (C' := (319, [some (.float 0), some (.ref 0), some (.ref 19), some (.int x3)], [.int (x3 + (1)), .float 0, .ref 0], σ)) 5 rfl ?_
                obtain ⟨hv, h⟩ := cnd_n h
                refine RU.sld rfl hv ?_
                refine RU.blk (C' := (324, [some (.float 0), some (.ref 0), some (.ref 19), some (.int x3)], [.int (x3 + (2)), .float 0, .int (xs (Int32.toNatClampNeg (x3 + (1)))), .ref 0], σ)) 4 rfl ?_
                obtain ⟨hv, h⟩ := cnd_n h
                refine RU.sld rfl hv ?_
                obtain ⟨⟨v9, s9⟩, hk, h⟩ := Option.bind_eq_some_iff.mp h
                dsimp only at h
                refine RU.call (as := [.ref 0, .int (xs (Int32.toNatClampNeg (x3 + (1)))), .int (xs (Int32.toNatClampNeg (x3 + (2))))]) (rest := []) (u := some (.int v9)) (C' := (328, [some (.float 0), some (.ref 0), some (.ref 19), some (.int x3)], [.int v9], s9)) rfl rfl (m_X4_dim (xs (Int32.toNatClampNeg (x3 + (1)))) (xs (Int32.toNatClampNeg (x3 + (2)))) σ hk) rfl rfl ?_
                refine RU.blk (C' := (333, [some (.float 0), some (.ref 0), some (.ref 19), some (.int x3)], [.int (x3 + (1)), .float 0, .ref 19, .int v9], s9)) 5 rfl ?_
                obtain ⟨hv, h⟩ := cnd_n h
                refine RU.sld rfl hv ?_
                refine RU.blk (C' := (338, [some (.float 0), some (.ref 0), some (.ref 19), some (.int x3)], [.int (x3 + (2)), .float 0, .int (xs (Int32.toNatClampNeg (x3 + (1)))), .ref 19, .int v9], s9)) 4 rfl ?_
                obtain ⟨hv, h⟩ := cnd_n h
                refine RU.sld rfl hv ?_
                obtain ⟨⟨v10, s10⟩, hk, h⟩ := Option.bind_eq_some_iff.mp h
                dsimp only at h
                refine RU.call (as := [.ref 19, .int (xs (Int32.toNatClampNeg (x3 + (1)))), .int (xs (Int32.toNatClampNeg (x3 + (2))))]) (rest := [.int v9]) (u := some (.int v10)) (C' := (342, [some (.float 0), some (.ref 0), some (.ref 19), some (.int x3)], [.int v10, .int v9], s10)) rfl rfl (m_X5_dim (xs (Int32.toNatClampNeg (x3 + (1)))) (xs (Int32.toNatClampNeg (x3 + (2)))) s9 hk) rfl rfl ?_
                refine RU.blk (C' := (bif cEq v9 v10 then 1220 else 345, [some (.float 0), some (.ref 0), some (.ref 19), some (.int x3)], [], s10)) 1 rfl ?_
                rcases cnd_some h with ⟨hc, h⟩ | ⟨hc, h⟩
                · refine RU.tt hc ?_
                  refine RU.blk (C' := (18, [some (.float 0), some (.ref 0), some (.ref 19), some (.int (x3 + (7)))], [], s10)) 2 rfl ?_
                  exact ih (x3 + (7)) _ _ _ h
                · refine RU.ff hc ?_
                  refine RU.blk (C' := (346, [some (.float 0), some (.ref 0), some (.ref 19), some (.int x3)], [.int (0)], s10)) 1 rfl ?_
                  obtain ⟨rfl, rfl⟩ := ret_inj h
                  exact RU.ret rfl rfl rfl
              · refine RU.ff hc ?_
                rcases cnd_some h with ⟨hc, h⟩ | ⟨hc, h⟩
                · refine RU.tt hc ?_
                  refine RU.blk (C' := (352, [some (.float 0), some (.ref 0), some (.ref 19), some (.int x3)], [.int (x3 + (1)), .float 0, .ref 0], σ)) 5 rfl ?_
                  obtain ⟨hv, h⟩ := cnd_n h
                  refine RU.sld rfl hv ?_
                  obtain ⟨⟨v11, s11⟩, hk, h⟩ := Option.bind_eq_some_iff.mp h
                  dsimp only at h
                  refine RU.call (as := [.ref 0, .int (xs (Int32.toNatClampNeg (x3 + (1))))]) (rest := []) (u := some (.int v11)) (C' := (356, [some (.float 0), some (.ref 0), some (.ref 19), some (.int x3)], [.int v11], s11)) rfl rfl (m_X4_scrape (xs (Int32.toNatClampNeg (x3 + (1)))) σ hk) rfl rfl ?_
                  refine RU.blk (C' := (361, [some (.float 0), some (.ref 0), some (.ref 19), some (.int x3)], [.int (x3 + (1)), .float 0, .ref 19, .int v11], s11)) 5 rfl ?_
                  obtain ⟨hv, h⟩ := cnd_n h
                  refine RU.sld rfl hv ?_
                  obtain ⟨⟨v12, s12⟩, hk, h⟩ := Option.bind_eq_some_iff.mp h
                  dsimp only at h
                  refine RU.call (as := [.ref 19, .int (xs (Int32.toNatClampNeg (x3 + (1))))]) (rest := [.int v11]) (u := some (.int v12)) (C' := (365, [some (.float 0), some (.ref 0), some (.ref 19), some (.int x3)], [.int v12, .int v11], s12)) rfl rfl (m_X5_scrape (xs (Int32.toNatClampNeg (x3 + (1)))) s11 hk) rfl rfl ?_
                  refine RU.blk (C' := (bif cEq v11 v12 then 1220 else 368, [some (.float 0), some (.ref 0), some (.ref 19), some (.int x3)], [], s12)) 1 rfl ?_
                  rcases cnd_some h with ⟨hc, h⟩ | ⟨hc, h⟩
                  · refine RU.tt hc ?_
                    refine RU.blk (C' := (18, [some (.float 0), some (.ref 0), some (.ref 19), some (.int (x3 + (7)))], [], s12)) 2 rfl ?_
                    exact ih (x3 + (7)) _ _ _ h
                  · refine RU.ff hc ?_
                    refine RU.blk (C' := (369, [some (.float 0), some (.ref 0), some (.ref 19), some (.int x3)], [.int (0)], s12)) 1 rfl ?_
                    obtain ⟨rfl, rfl⟩ := ret_inj h
                    exact RU.ret rfl rfl rfl
                · refine RU.ff hc ?_
                  rcases cnd_some h with ⟨hc, h⟩ | ⟨hc, h⟩
                  · refine RU.tt hc ?_
                    refine RU.blk (C' := (375, [some (.float 0), some (.ref 0), some (.ref 19), some (.int x3)], [.int (x3 + (1)), .float 0, .ref 0], σ)) 5 rfl ?_
                    obtain ⟨hv, h⟩ := cnd_n h
                    refine RU.sld rfl hv ?_
                    obtain ⟨⟨v13, s13⟩, hk, h⟩ := Option.bind_eq_some_iff.mp h
                    dsimp only at h
                    refine RU.call (as := [.ref 0, .int (xs (Int32.toNatClampNeg (x3 + (1))))]) (rest := []) (u := some (.int v13)) (C' := (379, [some (.float 0), some (.ref 0), some (.ref 19), some (.int x3)], [.int v13], s13)) rfl rfl (m_X4_grow (xs (Int32.toNatClampNeg (x3 + (1)))) σ hk) rfl rfl ?_
                    refine RU.blk (C' := (384, [some (.float 0), some (.ref 0), some (.ref 19), some (.int x3)], [.int (x3 + (1)), .float 0, .ref 19, .int v13], s13)) 5 rfl ?_
                    obtain ⟨hv, h⟩ := cnd_n h
                    refine RU.sld rfl hv ?_
                    obtain ⟨⟨v14, s14⟩, hk, h⟩ := Option.bind_eq_some_iff.mp h
                    dsimp only at h
                    refine RU.call (as := [.ref 19, .int (xs (Int32.toNatClampNeg (x3 + (1))))]) (rest := [.int v13]) (u := some (.int v14)) (C' := (388, [some (.float 0), some (.ref 0), some (.ref 19), some (.int x3)], [.int v14, .int v13], s14)) rfl rfl (m_X5_grow (xs (Int32.toNatClampNeg (x3 + (1)))) s13 hk) rfl rfl ?_
                    refine RU.blk (C' := (bif cEq v13 v14 then 1220 else 391, [some (.float 0), some (.ref 0), some (.ref 19), some (.int x3)], [], s14)) 1 rfl ?_
                    rcases cnd_some h with ⟨hc, h⟩ | ⟨hc, h⟩
                    · refine RU.tt hc ?_
                      refine RU.blk (C' := (18, [some (.float 0), some (.ref 0), some (.ref 19), some (.int (x3 + (7)))], [], s14)) 2 rfl ?_
                      exact ih (x3 + (7)) _ _ _ h
                    · refine RU.ff hc ?_
                      refine RU.blk (C' := (392, [some (.float 0), some (.ref 0), some (.ref 19), some (.int x3)], [.int (0)], s14)) 1 rfl ?_
                      obtain ⟨rfl, rfl⟩ := ret_inj h
                      exact RU.ret rfl rfl rfl
                  · refine RU.ff hc ?_
                    rcases cnd_some h with ⟨hc, h⟩ | ⟨hc, h⟩
                    · refine RU.tt hc ?_
                      refine RU.blk (C' := (394, [some (.float 0), some (.ref 0), some (.ref 19), some (.int x3)], [.ref 0], σ)) 1 rfl ?_
                      obtain ⟨⟨v15, s15⟩, hk, h⟩ := Option.bind_eq_some_iff.mp h
                      dsimp only at h
                      refine RU.call (as := [.ref 0]) (rest := []) (u := some (.long v15)) (C' := (397, [some (.float 0), some (.ref 0), some (.ref 19), some (.int x3)], [.long v15], s15)) rfl rfl (m_X4_seen σ hk) rfl rfl ?_
                      refine RU.blk (C' := (398, [some (.float 0), some (.ref 0), some (.ref 19), some (.int x3)], [.ref 19, .long v15], s15)) 1 rfl ?_
                      obtain ⟨⟨v16, s16⟩, hk, h⟩ := Option.bind_eq_some_iff.mp h
                      dsimp only at h
                      refine RU.call (as := [.ref 19]) (rest := [.long v15]) (u := some (.long v16)) (C' := (401, [some (.float 0), some (.ref 0), some (.ref 19), some (.int x3)], [.long v16, .long v15], s16)) rfl rfl (m_X5_seen s15 hk) rfl rfl ?_
                      refine RU.blk (C' := (bif cEq (lg_cmp v15 v16) 0 then 1220 else 405, [some (.float 0), some (.ref 0), some (.ref 19), some (.int x3)], [], s16)) 2 rfl ?_
                      rcases cnd_some h with ⟨hc, h⟩ | ⟨hc, h⟩
                      · refine RU.tt hc ?_
                        refine RU.blk (C' := (18, [some (.float 0), some (.ref 0), some (.ref 19), some (.int (x3 + (7)))], [], s16)) 2 rfl ?_
                        exact ih (x3 + (7)) _ _ _ h
                      · refine RU.ff hc ?_
                        refine RU.blk (C' := (406, [some (.float 0), some (.ref 0), some (.ref 19), some (.int x3)], [.int (0)], s16)) 1 rfl ?_
                        obtain ⟨rfl, rfl⟩ := ret_inj h
                        exact RU.ret rfl rfl rfl
                    · refine RU.ff hc ?_
                      rcases cnd_some h with ⟨hc, h⟩ | ⟨hc, h⟩
                      · refine RU.tt hc ?_
                        refine RU.blk (C' := (412, [some (.float 0), some (.ref 0), some (.ref 19), some (.int x3)], [.int (x3 + (1)), .float 0, .ref 0], σ)) 5 rfl ?_
                        obtain ⟨hv, h⟩ := cnd_n h
                        refine RU.sld rfl hv ?_
                        obtain ⟨⟨v17, s17⟩, hk, h⟩ := Option.bind_eq_some_iff.mp h
                        dsimp only at h
                        refine RU.call (as := [.ref 0, .int (xs (Int32.toNatClampNeg (x3 + (1))))]) (rest := []) (u := some (.int v17)) (C' := (416, [some (.float 0), some (.ref 0), some (.ref 19), some (.int x3)], [.int v17], s17)) rfl rfl (m_X4_step (xs (Int32.toNatClampNeg (x3 + (1)))) σ hk) rfl rfl ?_
                        refine RU.blk (C' := (421, [some (.float 0), some (.ref 0), some (.ref 19), some (.int x3)], [.int (x3 + (1)), .float 0, .ref 19, .int v17], s17)) 5 rfl ?_
                        obtain ⟨hv, h⟩ := cnd_n h
                        refine RU.sld rfl hv ?_
                        obtain ⟨⟨v18, s18⟩, hk, h⟩ := Option.bind_eq_some_iff.mp h
                        dsimp only at h
                        refine RU.call (as := [.ref 19, .int (xs (Int32.toNatClampNeg (x3 + (1))))]) (rest := [.int v17]) (u := some (.int v18)) (C' := (425, [some (.float 0), some (.ref 0), some (.ref 19), some (.int x3)], [.int v18, .int v17], s18)) rfl rfl (m_X5_step (xs (Int32.toNatClampNeg (x3 + (1)))) s17 hk) rfl rfl ?_
                        refine RU.blk (C' := (bif cEq v17 v18 then 1220 else 428, [some (.float 0), some (.ref 0), some (.ref 19), some (.int x3)], [], s18)) 1 rfl ?_
                        rcases cnd_some h with ⟨hc, h⟩ | ⟨hc, h⟩
                        · refine RU.tt hc ?_
                          refine RU.blk (C' := (18, [some (.float 0), some (.ref 0), some (.ref 19), some (.int (x3 + (7)))], [], s18)) 2 rfl ?_
                          exact ih (x3 + (7)) _ _ _ h
                        · refine RU.ff hc ?_
                          refine RU.blk (C' := (429, [some (.float 0), some (.ref 0), some (.ref 19), some (.int x3)], [.int (0)], s18)) 1 rfl ?_
                          obtain ⟨rfl, rfl⟩ := ret_inj h
                          exact RU.ret rfl rfl rfl
                      · refine RU.ff hc ?_
                        rcases cnd_some h with ⟨hc, h⟩ | ⟨hc, h⟩
                        · refine RU.tt hc ?_
                          refine RU.blk (C' := (435, [some (.float 0), some (.ref 0), some (.ref 19), some (.int x3)], [.int (x3 + (1)), .float 0, .ref 0], σ)) 5 rfl ?_
                          obtain ⟨hv, h⟩ := cnd_n h
                          refine RU.sld rfl hv ?_
                          refine RU.blk (C' := (440, [some (.float 0), some (.ref 0), some (.ref 19), some (.int x3)], [.int (x3 + (2)), .float 0, .int (xs (Int32.toNatClampNeg (x3 + (1)))), .ref 0], σ)) 4 rfl ?_
                          obtain ⟨hv, h⟩ := cnd_n h
                          refine RU.sld rfl hv ?_
                          refine RU.blk (C' := (445, [some (.float 0), some (.ref 0), some (.ref 19), some (.int x3)], [.int (x3 + (3)), .float 0, .int (xs (Int32.toNatClampNeg (x3 + (2)))), .int (xs (Int32.toNatClampNeg (x3 + (1)))), .ref 0], σ)) 4 rfl ?_
                          obtain ⟨hv, h⟩ := cnd_n h
                          refine RU.sld rfl hv ?_
                          refine RU.blk (C' := (450, [some (.float 0), some (.ref 0), some (.ref 19), some (.int x3)], [.int (x3 + (4)), .float 0, .int (xs (Int32.toNatClampNeg (x3 + (3)))), .int (xs (Int32.toNatClampNeg (x3 + (2)))), .int (xs (Int32.toNatClampNeg (x3 + (1)))), .ref 0], σ)) 4 rfl ?_
                          obtain ⟨hv, h⟩ := cnd_n h
                          refine RU.sld rfl hv ?_
                          refine RU.blk (C' := (455, [some (.float 0), some (.ref 0), some (.ref 19), some (.int x3)], [.int (x3 + (5)), .float 0, .int (xs (Int32.toNatClampNeg (x3 + (4)))), .int (xs (Int32.toNatClampNeg (x3 + (3)))), .int (xs (Int32.toNatClampNeg (x3 + (2)))), .int (xs (Int32.toNatClampNeg (x3 + (1)))), .ref 0], σ)) 4 rfl ?_
                          obtain ⟨hv, h⟩ := cnd_n h
                          refine RU.sld rfl hv ?_
                          obtain ⟨⟨v19, s19⟩, hk, h⟩ := Option.bind_eq_some_iff.mp h
                          dsimp only at h
                          refine RU.call (as := [.ref 0, .int (xs (Int32.toNatClampNeg (x3 + (1)))), .int (xs (Int32.toNatClampNeg (x3 + (2)))), .int (xs (Int32.toNatClampNeg (x3 + (3)))), .int (xs (Int32.toNatClampNeg (x3 + (4)))), .int (xs (Int32.toNatClampNeg (x3 + (5))))]) (rest := []) (u := some (.int v19)) (C' := (459, [some (.float 0), some (.ref 0), some (.ref 19), some (.int x3)], [.int v19], s19)) rfl rfl (m_X4_voyage (xs (Int32.toNatClampNeg (x3 + (1)))) (xs (Int32.toNatClampNeg (x3 + (2)))) (xs (Int32.toNatClampNeg (x3 + (3)))) (xs (Int32.toNatClampNeg (x3 + (4)))) (xs (Int32.toNatClampNeg (x3 + (5)))) σ hk) rfl rfl ?_
                          refine RU.blk (C' := (464, [some (.float 0), some (.ref 0), some (.ref 19), some (.int x3)], [.int (x3 + (1)), .float 0, .ref 19, .int v19], s19)) 5 rfl ?_
                          obtain ⟨hv, h⟩ := cnd_n h
                          refine RU.sld rfl hv ?_
                          refine RU.blk (C' := (469, [some (.float 0), some (.ref 0), some (.ref 19), some (.int x3)], [.int (x3 + (2)), .float 0, .int (xs (Int32.toNatClampNeg (x3 + (1)))), .ref 19, .int v19], s19)) 4 rfl ?_
                          obtain ⟨hv, h⟩ := cnd_n h
                          refine RU.sld rfl hv ?_
                          refine RU.blk (C' := (474, [some (.float 0), some (.ref 0), some (.ref 19), some (.int x3)], [.int (x3 + (3)), .float 0, .int (xs (Int32.toNatClampNeg (x3 + (2)))), .int (xs (Int32.toNatClampNeg (x3 + (1)))), .ref 19, .int v19], s19)) 4 rfl ?_
                          obtain ⟨hv, h⟩ := cnd_n h
                          refine RU.sld rfl hv ?_
                          refine RU.blk (C' := (479, [some (.float 0), some (.ref 0), some (.ref 19), some (.int x3)], [.int (x3 + (4)), .float 0, .int (xs (Int32.toNatClampNeg (x3 + (3)))), .int (xs (Int32.toNatClampNeg (x3 + (2)))), .int (xs (Int32.toNatClampNeg (x3 + (1)))), .ref 19, .int v19], s19)) 4 rfl ?_
                          obtain ⟨hv, h⟩ := cnd_n h
                          refine RU.sld rfl hv ?_
                          refine RU.blk (C' := (484, [some (.float 0), some (.ref 0), some (.ref 19), some (.int x3)], [.int (x3 + (5)), .float 0, .int (xs (Int32.toNatClampNeg (x3 + (4)))), .int (xs (Int32.toNatClampNeg (x3 + (3)))), .int (xs (Int32.toNatClampNeg (x3 + (2)))), .int (xs (Int32.toNatClampNeg (x3 + (1)))), .ref 19, .int v19], s19)) 4 rfl ?_
                          obtain ⟨hv, h⟩ := cnd_n h
                          refine RU.sld rfl hv ?_
                          obtain ⟨⟨v20, s20⟩, hk, h⟩ := Option.bind_eq_some_iff.mp h
                          dsimp only at h
                          refine RU.call (as := [.ref 19, .int (xs (Int32.toNatClampNeg (x3 + (1)))), .int (xs (Int32.toNatClampNeg (x3 + (2)))), .int (xs (Int32.toNatClampNeg (x3 + (3)))), .int (xs (Int32.toNatClampNeg (x3 + (4)))), .int (xs (Int32.toNatClampNeg (x3 + (5))))]) (rest := [.int v19]) (u := some (.int v20)) (C' := (488, [some (.float 0), some (.ref 0), some (.ref 19), some (.int x3)], [.int v20, .int v19], s20)) rfl rfl (m_X5_voyage (xs (Int32.toNatClampNeg (x3 + (1)))) (xs (Int32.toNatClampNeg (x3 + (2)))) (xs (Int32.toNatClampNeg (x3 + (3)))) (xs (Int32.toNatClampNeg (x3 + (4)))) (xs (Int32.toNatClampNeg (x3 + (5)))) s19 hk) rfl rfl ?_
                          refine RU.blk (C' := (bif cEq v19 v20 then 1220 else 491, [some (.float 0), some (.ref 0), some (.ref 19), some (.int x3)], [], s20)) 1 rfl ?_
                          rcases cnd_some h with ⟨hc, h⟩ | ⟨hc, h⟩
                          · refine RU.tt hc ?_
                            refine RU.blk (C' := (18, [some (.float 0), some (.ref 0), some (.ref 19), some (.int (x3 + (7)))], [], s20)) 2 rfl ?_
                            exact ih (x3 + (7)) _ _ _ h
                          · refine RU.ff hc ?_
                            refine RU.blk (C' := (492, [some (.float 0), some (.ref 0), some (.ref 19), some (.int x3)], [.int (0)], s20)) 1 rfl ?_
                            obtain ⟨rfl, rfl⟩ := ret_inj h
                            exact RU.ret rfl rfl rfl
                        · refine RU.ff hc ?_
                          rcases cnd_some h with ⟨hc, h⟩ | ⟨hc, h⟩
                          · refine RU.tt hc ?_
                            refine RU.blk (C' := (498, [some (.float 0), some (.ref 0), some (.ref 19), some (.int x3)], [.int (x3 + (1)), .float 0, .ref 0], σ)) 5 rfl ?_
                            obtain ⟨hv, h⟩ := cnd_n h
                            refine RU.sld rfl hv ?_
                            refine RU.blk (C' := (503, [some (.float 0), some (.ref 0), some (.ref 19), some (.int x3)], [.int (x3 + (2)), .float 0, .int (xs (Int32.toNatClampNeg (x3 + (1)))), .ref 0], σ)) 4 rfl ?_
                            obtain ⟨hv, h⟩ := cnd_n h
                            refine RU.sld rfl hv ?_
                            obtain ⟨⟨v21, s21⟩, hk, h⟩ := Option.bind_eq_some_iff.mp h
                            dsimp only at h
                            refine RU.call (as := [.ref 0, .int (xs (Int32.toNatClampNeg (x3 + (1)))), .int (xs (Int32.toNatClampNeg (x3 + (2))))]) (rest := []) (u := some (.int v21)) (C' := (507, [some (.float 0), some (.ref 0), some (.ref 19), some (.int x3)], [.int v21], s21)) rfl rfl (m_X4_way (xs (Int32.toNatClampNeg (x3 + (1)))) (xs (Int32.toNatClampNeg (x3 + (2)))) σ hk) rfl rfl ?_
                            refine RU.blk (C' := (512, [some (.float 0), some (.ref 0), some (.ref 19), some (.int x3)], [.int (x3 + (1)), .float 0, .ref 19, .int v21], s21)) 5 rfl ?_
                            obtain ⟨hv, h⟩ := cnd_n h
                            refine RU.sld rfl hv ?_
                            refine RU.blk (C' := (517, [some (.float 0), some (.ref 0), some (.ref 19), some (.int x3)], [.int (x3 + (2)), .float 0, .int (xs (Int32.toNatClampNeg (x3 + (1)))), .ref 19, .int v21], s21)) 4 rfl ?_
                            obtain ⟨hv, h⟩ := cnd_n h
                            refine RU.sld rfl hv ?_
                            obtain ⟨⟨v22, s22⟩, hk, h⟩ := Option.bind_eq_some_iff.mp h
                            dsimp only at h
                            refine RU.call (as := [.ref 19, .int (xs (Int32.toNatClampNeg (x3 + (1)))), .int (xs (Int32.toNatClampNeg (x3 + (2))))]) (rest := [.int v21]) (u := some (.int v22)) (C' := (521, [some (.float 0), some (.ref 0), some (.ref 19), some (.int x3)], [.int v22, .int v21], s22)) rfl rfl (m_X5_way (xs (Int32.toNatClampNeg (x3 + (1)))) (xs (Int32.toNatClampNeg (x3 + (2)))) s21 hk) rfl rfl ?_
                            refine RU.blk (C' := (bif cEq v21 v22 then 1220 else 524, [some (.float 0), some (.ref 0), some (.ref 19), some (.int x3)], [], s22)) 1 rfl ?_
                            rcases cnd_some h with ⟨hc, h⟩ | ⟨hc, h⟩
                            · refine RU.tt hc ?_
                              refine RU.blk (C' := (18, [some (.float 0), some (.ref 0), some (.ref 19), some (.int (x3 + (7)))], [], s22)) 2 rfl ?_
                              exact ih (x3 + (7)) _ _ _ h
                            · refine RU.ff hc ?_
                              refine RU.blk (C' := (525, [some (.float 0), some (.ref 0), some (.ref 19), some (.int x3)], [.int (0)], s22)) 1 rfl ?_
                              obtain ⟨rfl, rfl⟩ := ret_inj h
                              exact RU.ret rfl rfl rfl
                          · refine RU.ff hc ?_
                            rcases cnd_some h with ⟨hc, h⟩ | ⟨hc, h⟩
                            · refine RU.tt hc ?_
                              refine RU.blk (C' := (531, [some (.float 0), some (.ref 0), some (.ref 19), some (.int x3)], [.int (x3 + (1)), .float 0, .ref 0], σ)) 5 rfl ?_
                              obtain ⟨hv, h⟩ := cnd_n h
                              refine RU.sld rfl hv ?_
                              refine RU.blk (C' := (536, [some (.float 0), some (.ref 0), some (.ref 19), some (.int x3)], [.int (x3 + (2)), .float 0, .int (xs (Int32.toNatClampNeg (x3 + (1)))), .ref 0], σ)) 4 rfl ?_
                              obtain ⟨hv, h⟩ := cnd_n h
                              refine RU.sld rfl hv ?_
                              obtain ⟨⟨v23, s23⟩, hk, h⟩ := Option.bind_eq_some_iff.mp h
                              dsimp only at h
                              refine RU.call (as := [.ref 0, .int (xs (Int32.toNatClampNeg (x3 + (1)))), .int (xs (Int32.toNatClampNeg (x3 + (2))))]) (rest := []) (u := some (.int v23)) (C' := (540, [some (.float 0), some (.ref 0), some (.ref 19), some (.int x3)], [.int v23], s23)) rfl rfl (m_X4_most (xs (Int32.toNatClampNeg (x3 + (1)))) (xs (Int32.toNatClampNeg (x3 + (2)))) σ hk) rfl rfl ?_
                              refine RU.blk (C' := (545, [some (.float 0), some (.ref 0), some (.ref 19), some (.int x3)], [.int (x3 + (1)), .float 0, .ref 19, .int v23], s23)) 5 rfl ?_
                              obtain ⟨hv, h⟩ := cnd_n h
                              refine RU.sld rfl hv ?_
                              refine RU.blk (C' := (550, [some (.float 0), some (.ref 0), some (.ref 19), some (.int x3)], [.int (x3 + (2)), .float 0, .int (xs (Int32.toNatClampNeg (x3 + (1)))), .ref 19, .int v23], s23)) 4 rfl ?_
                              obtain ⟨hv, h⟩ := cnd_n h
                              refine RU.sld rfl hv ?_
                              obtain ⟨⟨v24, s24⟩, hk, h⟩ := Option.bind_eq_some_iff.mp h
                              dsimp only at h
                              refine RU.call (as := [.ref 19, .int (xs (Int32.toNatClampNeg (x3 + (1)))), .int (xs (Int32.toNatClampNeg (x3 + (2))))]) (rest := [.int v23]) (u := some (.int v24)) (C' := (554, [some (.float 0), some (.ref 0), some (.ref 19), some (.int x3)], [.int v24, .int v23], s24)) rfl rfl (m_X5_most (xs (Int32.toNatClampNeg (x3 + (1)))) (xs (Int32.toNatClampNeg (x3 + (2)))) s23 hk) rfl rfl ?_
                              refine RU.blk (C' := (bif cEq v23 v24 then 1220 else 557, [some (.float 0), some (.ref 0), some (.ref 19), some (.int x3)], [], s24)) 1 rfl ?_
                              rcases cnd_some h with ⟨hc, h⟩ | ⟨hc, h⟩
                              · refine RU.tt hc ?_
                                refine RU.blk (C' := (18, [some (.float 0), some (.ref 0), some (.ref 19), some (.int (x3 + (7)))], [], s24)) 2 rfl ?_
                                exact ih (x3 + (7)) _ _ _ h
                              · refine RU.ff hc ?_
                                refine RU.blk (C' := (558, [some (.float 0), some (.ref 0), some (.ref 19), some (.int x3)], [.int (0)], s24)) 1 rfl ?_
                                obtain ⟨rfl, rfl⟩ := ret_inj h
                                exact RU.ret rfl rfl rfl
                            · refine RU.ff hc ?_
                              rcases cnd_some h with ⟨hc, h⟩ | ⟨hc, h⟩
                              · refine RU.tt hc ?_
                                refine RU.blk (C' := (564, [some (.float 0), some (.ref 0), some (.ref 19), some (.int x3)], [.int (x3 + (1)), .float 0, .ref 0], σ)) 5 rfl ?_
                                obtain ⟨hv, h⟩ := cnd_n h
                                refine RU.sld rfl hv ?_
                                obtain ⟨⟨v25, s25⟩, hk, h⟩ := Option.bind_eq_some_iff.mp h
                                dsimp only at h
                                refine RU.call (as := [.ref 0, .int (xs (Int32.toNatClampNeg (x3 + (1))))]) (rest := []) (u := some (.int v25)) (C' := (568, [some (.float 0), some (.ref 0), some (.ref 19), some (.int x3)], [.int v25], s25)) rfl rfl (m_X4_flat (xs (Int32.toNatClampNeg (x3 + (1)))) σ hk) rfl rfl ?_
                                refine RU.blk (C' := (573, [some (.float 0), some (.ref 0), some (.ref 19), some (.int x3)], [.int (x3 + (1)), .float 0, .ref 19, .int v25], s25)) 5 rfl ?_
                                obtain ⟨hv, h⟩ := cnd_n h
                                refine RU.sld rfl hv ?_
                                obtain ⟨⟨v26, s26⟩, hk, h⟩ := Option.bind_eq_some_iff.mp h
                                dsimp only at h
                                refine RU.call (as := [.ref 19, .int (xs (Int32.toNatClampNeg (x3 + (1))))]) (rest := [.int v25]) (u := some (.int v26)) (C' := (577, [some (.float 0), some (.ref 0), some (.ref 19), some (.int x3)], [.int v26, .int v25], s26)) rfl rfl (m_X5_flat (xs (Int32.toNatClampNeg (x3 + (1)))) s25 hk) rfl rfl ?_
                                refine RU.blk (C' := (bif cEq v25 v26 then 1220 else 580, [some (.float 0), some (.ref 0), some (.ref 19), some (.int x3)], [], s26)) 1 rfl ?_
                                rcases cnd_some h with ⟨hc, h⟩ | ⟨hc, h⟩
                                · refine RU.tt hc ?_
                                  refine RU.blk (C' := (18, [some (.float 0), some (.ref 0), some (.ref 19), some (.int (x3 + (7)))], [], s26)) 2 rfl ?_
                                  exact ih (x3 + (7)) _ _ _ h
                                · refine RU.ff hc ?_
                                  refine RU.blk (C' := (581, [some (.float 0), some (.ref 0), some (.ref 19), some (.int x3)], [.int (0)], s26)) 1 rfl ?_
                                  obtain ⟨rfl, rfl⟩ := ret_inj h
                                  exact RU.ret rfl rfl rfl
                              · refine RU.ff hc ?_
                                rcases cnd_some h with ⟨hc, h⟩ | ⟨hc, h⟩
                                · refine RU.tt hc ?_
                                  refine RU.blk (C' := (587, [some (.float 0), some (.ref 0), some (.ref 19), some (.int x3)], [.int (x3 + (1)), .float 0, .ref 0], σ)) 5 rfl ?_
                                  obtain ⟨hv, h⟩ := cnd_n h
                                  refine RU.sld rfl hv ?_
                                  refine RU.blk (C' := (592, [some (.float 0), some (.ref 0), some (.ref 19), some (.int x3)], [.int (x3 + (2)), .float 0, .int (xs (Int32.toNatClampNeg (x3 + (1)))), .ref 0], σ)) 4 rfl ?_
                                  obtain ⟨hv, h⟩ := cnd_n h
                                  refine RU.sld rfl hv ?_
                                  refine RU.blk (C' := (597, [some (.float 0), some (.ref 0), some (.ref 19), some (.int x3)], [.int (x3 + (3)), .float 0, .int (xs (Int32.toNatClampNeg (x3 + (2)))), .int (xs (Int32.toNatClampNeg (x3 + (1)))), .ref 0], σ)) 4 rfl ?_
                                  obtain ⟨hv, h⟩ := cnd_n h
                                  refine RU.sld rfl hv ?_
                                  refine RU.blk (C' := (602, [some (.float 0), some (.ref 0), some (.ref 19), some (.int x3)], [.int (x3 + (4)), .float 0, .int (xs (Int32.toNatClampNeg (x3 + (3)))), .int (xs (Int32.toNatClampNeg (x3 + (2)))), .int (xs (Int32.toNatClampNeg (x3 + (1)))), .ref 0], σ)) 4 rfl ?_
                                  obtain ⟨hv, h⟩ := cnd_n h
                                  refine RU.sld rfl hv ?_
                                  refine RU.blk (C' := (607, [some (.float 0), some (.ref 0), some (.ref 19), some (.int x3)], [.int (x3 + (5)), .float 0, .int (xs (Int32.toNatClampNeg (x3 + (4)))), .int (xs (Int32.toNatClampNeg (x3 + (3)))), .int (xs (Int32.toNatClampNeg (x3 + (2)))), .int (xs (Int32.toNatClampNeg (x3 + (1)))), .ref 0], σ)) 4 rfl ?_
                                  obtain ⟨hv, h⟩ := cnd_n h
                                  refine RU.sld rfl hv ?_
                                  refine RU.blk (C' := (613, [some (.float 0), some (.ref 0), some (.ref 19), some (.int x3)], [.int (x3 + (6)), .float 0, .int (xs (Int32.toNatClampNeg (x3 + (5)))), .int (xs (Int32.toNatClampNeg (x3 + (4)))), .int (xs (Int32.toNatClampNeg (x3 + (3)))), .int (xs (Int32.toNatClampNeg (x3 + (2)))), .int (xs (Int32.toNatClampNeg (x3 + (1)))), .ref 0], σ)) 4 rfl ?_
                                  obtain ⟨hv, h⟩ := cnd_n h
                                  refine RU.sld rfl hv ?_
                                  obtain ⟨⟨v27, s27⟩, hk, h⟩ := Option.bind_eq_some_iff.mp h
                                  dsimp only at h
                                  refine RU.call (as := [.ref 0, .int (xs (Int32.toNatClampNeg (x3 + (1)))), .int (xs (Int32.toNatClampNeg (x3 + (2)))), .int (xs (Int32.toNatClampNeg (x3 + (3)))), .int (xs (Int32.toNatClampNeg (x3 + (4)))), .int (xs (Int32.toNatClampNeg (x3 + (5)))), .int (xs (Int32.toNatClampNeg (x3 + (6))))]) (rest := []) (u := some (.int v27)) (C' := (617, [some (.float 0), some (.ref 0), some (.ref 19), some (.int x3)], [.int v27], s27)) rfl rfl (m_X4_begun (xs (Int32.toNatClampNeg (x3 + (1)))) (xs (Int32.toNatClampNeg (x3 + (2)))) (xs (Int32.toNatClampNeg (x3 + (3)))) (xs (Int32.toNatClampNeg (x3 + (4)))) (xs (Int32.toNatClampNeg (x3 + (5)))) (xs (Int32.toNatClampNeg (x3 + (6)))) σ hk) rfl rfl ?_
                                  refine RU.blk (C' := (622, [some (.float 0), some (.ref 0), some (.ref 19), some (.int x3)], [.int (x3 + (1)), .float 0, .ref 19, .int v27], s27)) 5 rfl ?_
                                  obtain ⟨hv, h⟩ := cnd_n h
                                  refine RU.sld rfl hv ?_
                                  refine RU.blk (C' := (627, [some (.float 0), some (.ref 0), some (.ref 19), some (.int x3)], [.int (x3 + (2)), .float 0, .int (xs (Int32.toNatClampNeg (x3 + (1)))), .ref 19, .int v27], s27)) 4 rfl ?_
                                  obtain ⟨hv, h⟩ := cnd_n h
                                  refine RU.sld rfl hv ?_
                                  refine RU.blk (C' := (632, [some (.float 0), some (.ref 0), some (.ref 19), some (.int x3)], [.int (x3 + (3)), .float 0, .int (xs (Int32.toNatClampNeg (x3 + (2)))), .int (xs (Int32.toNatClampNeg (x3 + (1)))), .ref 19, .int v27], s27)) 4 rfl ?_
                                  obtain ⟨hv, h⟩ := cnd_n h
                                  refine RU.sld rfl hv ?_
                                  refine RU.blk (C' := (637, [some (.float 0), some (.ref 0), some (.ref 19), some (.int x3)], [.int (x3 + (4)), .float 0, .int (xs (Int32.toNatClampNeg (x3 + (3)))), .int (xs (Int32.toNatClampNeg (x3 + (2)))), .int (xs (Int32.toNatClampNeg (x3 + (1)))), .ref 19, .int v27], s27)) 4 rfl ?_
                                  obtain ⟨hv, h⟩ := cnd_n h
                                  refine RU.sld rfl hv ?_
                                  refine RU.blk (C' := (642, [some (.float 0), some (.ref 0), some (.ref 19), some (.int x3)], [.int (x3 + (5)), .float 0, .int (xs (Int32.toNatClampNeg (x3 + (4)))), .int (xs (Int32.toNatClampNeg (x3 + (3)))), .int (xs (Int32.toNatClampNeg (x3 + (2)))), .int (xs (Int32.toNatClampNeg (x3 + (1)))), .ref 19, .int v27], s27)) 4 rfl ?_
                                  obtain ⟨hv, h⟩ := cnd_n h
                                  refine RU.sld rfl hv ?_
                                  refine RU.blk (C' := (648, [some (.float 0), some (.ref 0), some (.ref 19), some (.int x3)], [.int (x3 + (6)), .float 0, .int (xs (Int32.toNatClampNeg (x3 + (5)))), .int (xs (Int32.toNatClampNeg (x3 + (4)))), .int (xs (Int32.toNatClampNeg (x3 + (3)))), .int (xs (Int32.toNatClampNeg (x3 + (2)))), .int (xs (Int32.toNatClampNeg (x3 + (1)))), .ref 19, .int v27], s27)) 4 rfl ?_
                                  obtain ⟨hv, h⟩ := cnd_n h
                                  refine RU.sld rfl hv ?_
                                  obtain ⟨⟨v28, s28⟩, hk, h⟩ := Option.bind_eq_some_iff.mp h
                                  dsimp only at h
                                  refine RU.call (as := [.ref 19, .int (xs (Int32.toNatClampNeg (x3 + (1)))), .int (xs (Int32.toNatClampNeg (x3 + (2)))), .int (xs (Int32.toNatClampNeg (x3 + (3)))), .int (xs (Int32.toNatClampNeg (x3 + (4)))), .int (xs (Int32.toNatClampNeg (x3 + (5)))), .int (xs (Int32.toNatClampNeg (x3 + (6))))]) (rest := [.int v27]) (u := some (.int v28)) (C' := (652, [some (.float 0), some (.ref 0), some (.ref 19), some (.int x3)], [.int v28, .int v27], s28)) rfl rfl (m_X5_begun (xs (Int32.toNatClampNeg (x3 + (1)))) (xs (Int32.toNatClampNeg (x3 + (2)))) (xs (Int32.toNatClampNeg (x3 + (3)))) (xs (Int32.toNatClampNeg (x3 + (4)))) (xs (Int32.toNatClampNeg (x3 + (5)))) (xs (Int32.toNatClampNeg (x3 + (6)))) s27 hk) rfl rfl ?_
                                  refine RU.blk (C' := (bif cEq v27 v28 then 1220 else 655, [some (.float 0), some (.ref 0), some (.ref 19), some (.int x3)], [], s28)) 1 rfl ?_
                                  rcases cnd_some h with ⟨hc, h⟩ | ⟨hc, h⟩
                                  · refine RU.tt hc ?_
                                    refine RU.blk (C' := (18, [some (.float 0), some (.ref 0), some (.ref 19), some (.int (x3 + (7)))], [], s28)) 2 rfl ?_
                                    exact ih (x3 + (7)) _ _ _ h
                                  · refine RU.ff hc ?_
                                    refine RU.blk (C' := (656, [some (.float 0), some (.ref 0), some (.ref 19), some (.int x3)], [.int (0)], s28)) 1 rfl ?_
                                    obtain ⟨rfl, rfl⟩ := ret_inj h
                                    exact RU.ret rfl rfl rfl
                                · refine RU.ff hc ?_
                                  rcases cnd_some h with ⟨hc, h⟩ | ⟨hc, h⟩
                                  · refine RU.tt hc ?_
                                    refine RU.blk (C' := (662, [some (.float 0), some (.ref 0), some (.ref 19), some (.int x3)], [.int (x3 + (1)), .float 0, .ref 0], σ)) 5 rfl ?_
                                    obtain ⟨hv, h⟩ := cnd_n h
                                    refine RU.sld rfl hv ?_
                                    refine RU.blk (C' := (667, [some (.float 0), some (.ref 0), some (.ref 19), some (.int x3)], [.int (x3 + (2)), .float 0, .int (xs (Int32.toNatClampNeg (x3 + (1)))), .ref 0], σ)) 4 rfl ?_
                                    obtain ⟨hv, h⟩ := cnd_n h
                                    refine RU.sld rfl hv ?_
                                    refine RU.blk (C' := (672, [some (.float 0), some (.ref 0), some (.ref 19), some (.int x3)], [.int (x3 + (3)), .float 0, .int (xs (Int32.toNatClampNeg (x3 + (2)))), .int (xs (Int32.toNatClampNeg (x3 + (1)))), .ref 0], σ)) 4 rfl ?_
                                    obtain ⟨hv, h⟩ := cnd_n h
                                    refine RU.sld rfl hv ?_
                                    refine RU.blk (C' := (677, [some (.float 0), some (.ref 0), some (.ref 19), some (.int x3)], [.int (x3 + (4)), .float 0, .int (xs (Int32.toNatClampNeg (x3 + (3)))), .int (xs (Int32.toNatClampNeg (x3 + (2)))), .int (xs (Int32.toNatClampNeg (x3 + (1)))), .ref 0], σ)) 4 rfl ?_
                                    obtain ⟨hv, h⟩ := cnd_n h
                                    refine RU.sld rfl hv ?_
                                    refine RU.blk (C' := (682, [some (.float 0), some (.ref 0), some (.ref 19), some (.int x3)], [.int (x3 + (5)), .float 0, .int (xs (Int32.toNatClampNeg (x3 + (4)))), .int (xs (Int32.toNatClampNeg (x3 + (3)))), .int (xs (Int32.toNatClampNeg (x3 + (2)))), .int (xs (Int32.toNatClampNeg (x3 + (1)))), .ref 0], σ)) 4 rfl ?_
                                    obtain ⟨hv, h⟩ := cnd_n h
                                    refine RU.sld rfl hv ?_
                                    obtain ⟨⟨v29, s29⟩, hk, h⟩ := Option.bind_eq_some_iff.mp h
                                    dsimp only at h
                                    refine RU.call (as := [.ref 0, .int (xs (Int32.toNatClampNeg (x3 + (1)))), .int (xs (Int32.toNatClampNeg (x3 + (2)))), .int (xs (Int32.toNatClampNeg (x3 + (3)))), .int (xs (Int32.toNatClampNeg (x3 + (4)))), .int (xs (Int32.toNatClampNeg (x3 + (5))))]) (rest := []) (u := some (.int v29)) (C' := (686, [some (.float 0), some (.ref 0), some (.ref 19), some (.int x3)], [.int v29], s29)) rfl rfl (m_X4_run (xs (Int32.toNatClampNeg (x3 + (1)))) (xs (Int32.toNatClampNeg (x3 + (2)))) (xs (Int32.toNatClampNeg (x3 + (3)))) (xs (Int32.toNatClampNeg (x3 + (4)))) (xs (Int32.toNatClampNeg (x3 + (5)))) σ hk) rfl rfl ?_
                                    refine RU.blk (C' := (691, [some (.float 0), some (.ref 0), some (.ref 19), some (.int x3)], [.int (x3 + (1)), .float 0, .ref 19, .int v29], s29)) 5 rfl ?_
                                    obtain ⟨hv, h⟩ := cnd_n h
                                    refine RU.sld rfl hv ?_
                                    refine RU.blk (C' := (696, [some (.float 0), some (.ref 0), some (.ref 19), some (.int x3)], [.int (x3 + (2)), .float 0, .int (xs (Int32.toNatClampNeg (x3 + (1)))), .ref 19, .int v29], s29)) 4 rfl ?_
                                    obtain ⟨hv, h⟩ := cnd_n h
                                    refine RU.sld rfl hv ?_
                                    refine RU.blk (C' := (701, [some (.float 0), some (.ref 0), some (.ref 19), some (.int x3)], [.int (x3 + (3)), .float 0, .int (xs (Int32.toNatClampNeg (x3 + (2)))), .int (xs (Int32.toNatClampNeg (x3 + (1)))), .ref 19, .int v29], s29)) 4 rfl ?_
                                    obtain ⟨hv, h⟩ := cnd_n h
                                    refine RU.sld rfl hv ?_
                                    refine RU.blk (C' := (706, [some (.float 0), some (.ref 0), some (.ref 19), some (.int x3)], [.int (x3 + (4)), .float 0, .int (xs (Int32.toNatClampNeg (x3 + (3)))), .int (xs (Int32.toNatClampNeg (x3 + (2)))), .int (xs (Int32.toNatClampNeg (x3 + (1)))), .ref 19, .int v29], s29)) 4 rfl ?_
                                    obtain ⟨hv, h⟩ := cnd_n h
                                    refine RU.sld rfl hv ?_
                                    refine RU.blk (C' := (711, [some (.float 0), some (.ref 0), some (.ref 19), some (.int x3)], [.int (x3 + (5)), .float 0, .int (xs (Int32.toNatClampNeg (x3 + (4)))), .int (xs (Int32.toNatClampNeg (x3 + (3)))), .int (xs (Int32.toNatClampNeg (x3 + (2)))), .int (xs (Int32.toNatClampNeg (x3 + (1)))), .ref 19, .int v29], s29)) 4 rfl ?_
                                    obtain ⟨hv, h⟩ := cnd_n h
                                    refine RU.sld rfl hv ?_
                                    obtain ⟨⟨v30, s30⟩, hk, h⟩ := Option.bind_eq_some_iff.mp h
                                    dsimp only at h
                                    refine RU.call (as := [.ref 19, .int (xs (Int32.toNatClampNeg (x3 + (1)))), .int (xs (Int32.toNatClampNeg (x3 + (2)))), .int (xs (Int32.toNatClampNeg (x3 + (3)))), .int (xs (Int32.toNatClampNeg (x3 + (4)))), .int (xs (Int32.toNatClampNeg (x3 + (5))))]) (rest := [.int v29]) (u := some (.int v30)) (C' := (715, [some (.float 0), some (.ref 0), some (.ref 19), some (.int x3)], [.int v30, .int v29], s30)) rfl rfl (m_X5_run (xs (Int32.toNatClampNeg (x3 + (1)))) (xs (Int32.toNatClampNeg (x3 + (2)))) (xs (Int32.toNatClampNeg (x3 + (3)))) (xs (Int32.toNatClampNeg (x3 + (4)))) (xs (Int32.toNatClampNeg (x3 + (5)))) s29 hk) rfl rfl ?_
                                    refine RU.blk (C' := (bif cEq v29 v30 then 1220 else 718, [some (.float 0), some (.ref 0), some (.ref 19), some (.int x3)], [], s30)) 1 rfl ?_
                                    rcases cnd_some h with ⟨hc, h⟩ | ⟨hc, h⟩
                                    · refine RU.tt hc ?_
                                      refine RU.blk (C' := (18, [some (.float 0), some (.ref 0), some (.ref 19), some (.int (x3 + (7)))], [], s30)) 2 rfl ?_
                                      exact ih (x3 + (7)) _ _ _ h
                                    · refine RU.ff hc ?_
                                      refine RU.blk (C' := (719, [some (.float 0), some (.ref 0), some (.ref 19), some (.int x3)], [.int (0)], s30)) 1 rfl ?_
                                      obtain ⟨rfl, rfl⟩ := ret_inj h
                                      exact RU.ret rfl rfl rfl
                                  · refine RU.ff hc ?_
                                    rcases cnd_some h with ⟨hc, h⟩ | ⟨hc, h⟩
                                    · refine RU.tt hc ?_
                                      refine RU.blk (C' := (725, [some (.float 0), some (.ref 0), some (.ref 19), some (.int x3)], [.int (x3 + (1)), .float 0, .ref 0], σ)) 5 rfl ?_
                                      obtain ⟨hv, h⟩ := cnd_n h
                                      refine RU.sld rfl hv ?_
                                      refine RU.blk (C' := (730, [some (.float 0), some (.ref 0), some (.ref 19), some (.int x3)], [.int (x3 + (2)), .float 0, .int (xs (Int32.toNatClampNeg (x3 + (1)))), .ref 0], σ)) 4 rfl ?_
                                      obtain ⟨hv, h⟩ := cnd_n h
                                      refine RU.sld rfl hv ?_
                                      refine RU.blk (C' := (735, [some (.float 0), some (.ref 0), some (.ref 19), some (.int x3)], [.int (x3 + (3)), .float 0, .int (xs (Int32.toNatClampNeg (x3 + (2)))), .int (xs (Int32.toNatClampNeg (x3 + (1)))), .ref 0], σ)) 4 rfl ?_
                                      obtain ⟨hv, h⟩ := cnd_n h
                                      refine RU.sld rfl hv ?_
                                      obtain ⟨⟨v31, s31⟩, hk, h⟩ := Option.bind_eq_some_iff.mp h
                                      dsimp only at h
                                      refine RU.call (as := [.ref 0, .int (xs (Int32.toNatClampNeg (x3 + (1)))), .int (xs (Int32.toNatClampNeg (x3 + (2)))), .int (xs (Int32.toNatClampNeg (x3 + (3))))]) (rest := []) (u := some (.int v31)) (C' := (739, [some (.float 0), some (.ref 0), some (.ref 19), some (.int x3)], [.int v31], s31)) rfl rfl (m_X4_reading (xs (Int32.toNatClampNeg (x3 + (1)))) (xs (Int32.toNatClampNeg (x3 + (2)))) (xs (Int32.toNatClampNeg (x3 + (3)))) σ hk) rfl rfl ?_
                                      refine RU.blk (C' := (744, [some (.float 0), some (.ref 0), some (.ref 19), some (.int x3)], [.int (x3 + (1)), .float 0, .ref 19, .int v31], s31)) 5 rfl ?_
                                      obtain ⟨hv, h⟩ := cnd_n h
                                      refine RU.sld rfl hv ?_
                                      refine RU.blk (C' := (749, [some (.float 0), some (.ref 0), some (.ref 19), some (.int x3)], [.int (x3 + (2)), .float 0, .int (xs (Int32.toNatClampNeg (x3 + (1)))), .ref 19, .int v31], s31)) 4 rfl ?_
                                      obtain ⟨hv, h⟩ := cnd_n h
                                      refine RU.sld rfl hv ?_
                                      refine RU.blk (C' := (754, [some (.float 0), some (.ref 0), some (.ref 19), some (.int x3)], [.int (x3 + (3)), .float 0, .int (xs (Int32.toNatClampNeg (x3 + (2)))), .int (xs (Int32.toNatClampNeg (x3 + (1)))), .ref 19, .int v31], s31)) 4 rfl ?_
                                      obtain ⟨hv, h⟩ := cnd_n h
                                      refine RU.sld rfl hv ?_
                                      obtain ⟨⟨v32, s32⟩, hk, h⟩ := Option.bind_eq_some_iff.mp h
                                      dsimp only at h
                                      refine RU.call (as := [.ref 19, .int (xs (Int32.toNatClampNeg (x3 + (1)))), .int (xs (Int32.toNatClampNeg (x3 + (2)))), .int (xs (Int32.toNatClampNeg (x3 + (3))))]) (rest := [.int v31]) (u := some (.int v32)) (C' := (758, [some (.float 0), some (.ref 0), some (.ref 19), some (.int x3)], [.int v32, .int v31], s32)) rfl rfl (m_X5_reading (xs (Int32.toNatClampNeg (x3 + (1)))) (xs (Int32.toNatClampNeg (x3 + (2)))) (xs (Int32.toNatClampNeg (x3 + (3)))) s31 hk) rfl rfl ?_
                                      refine RU.blk (C' := (bif cEq v31 v32 then 1220 else 761, [some (.float 0), some (.ref 0), some (.ref 19), some (.int x3)], [], s32)) 1 rfl ?_
                                      rcases cnd_some h with ⟨hc, h⟩ | ⟨hc, h⟩
                                      · refine RU.tt hc ?_
                                        refine RU.blk (C' := (18, [some (.float 0), some (.ref 0), some (.ref 19), some (.int (x3 + (7)))], [], s32)) 2 rfl ?_
                                        exact ih (x3 + (7)) _ _ _ h
                                      · refine RU.ff hc ?_
                                        refine RU.blk (C' := (762, [some (.float 0), some (.ref 0), some (.ref 19), some (.int x3)], [.int (0)], s32)) 1 rfl ?_
                                        obtain ⟨rfl, rfl⟩ := ret_inj h
                                        exact RU.ret rfl rfl rfl
                                    · refine RU.ff hc ?_
                                      rcases cnd_some h with ⟨hc, h⟩ | ⟨hc, h⟩
                                      · refine RU.tt hc ?_
                                        refine RU.blk (C' := (768, [some (.float 0), some (.ref 0), some (.ref 19), some (.int x3)], [.int (x3 + (1)), .float 0, .ref 0], σ)) 5 rfl ?_
                                        obtain ⟨hv, h⟩ := cnd_n h
                                        refine RU.sld rfl hv ?_
                                        obtain ⟨⟨v33, s33⟩, hk, h⟩ := Option.bind_eq_some_iff.mp h
                                        dsimp only at h
                                        refine RU.call (as := [.ref 0, .int (xs (Int32.toNatClampNeg (x3 + (1))))]) (rest := []) (u := some (.int v33)) (C' := (772, [some (.float 0), some (.ref 0), some (.ref 19), some (.int x3)], [.int v33], s33)) rfl rfl (m_X4_back (xs (Int32.toNatClampNeg (x3 + (1)))) σ hk) rfl rfl ?_
                                        refine RU.blk (C' := (777, [some (.float 0), some (.ref 0), some (.ref 19), some (.int x3)], [.int (x3 + (1)), .float 0, .ref 19, .int v33], s33)) 5 rfl ?_
                                        obtain ⟨hv, h⟩ := cnd_n h
                                        refine RU.sld rfl hv ?_
                                        obtain ⟨⟨v34, s34⟩, hk, h⟩ := Option.bind_eq_some_iff.mp h
                                        dsimp only at h
                                        refine RU.call (as := [.ref 19, .int (xs (Int32.toNatClampNeg (x3 + (1))))]) (rest := [.int v33]) (u := some (.int v34)) (C' := (781, [some (.float 0), some (.ref 0), some (.ref 19), some (.int x3)], [.int v34, .int v33], s34)) rfl rfl (m_X5_back (xs (Int32.toNatClampNeg (x3 + (1)))) s33 hk) rfl rfl ?_
                                        refine RU.blk (C' := (bif cEq v33 v34 then 1220 else 784, [some (.float 0), some (.ref 0), some (.ref 19), some (.int x3)], [], s34)) 1 rfl ?_
                                        rcases cnd_some h with ⟨hc, h⟩ | ⟨hc, h⟩
                                        · refine RU.tt hc ?_
                                          refine RU.blk (C' := (18, [some (.float 0), some (.ref 0), some (.ref 19), some (.int (x3 + (7)))], [], s34)) 2 rfl ?_
                                          exact ih (x3 + (7)) _ _ _ h
                                        · refine RU.ff hc ?_
                                          refine RU.blk (C' := (785, [some (.float 0), some (.ref 0), some (.ref 19), some (.int x3)], [.int (0)], s34)) 1 rfl ?_
                                          obtain ⟨rfl, rfl⟩ := ret_inj h
                                          exact RU.ret rfl rfl rfl
                                      · refine RU.ff hc ?_
                                        rcases cnd_some h with ⟨hc, h⟩ | ⟨hc, h⟩
                                        · refine RU.tt hc ?_
                                          refine RU.blk (C' := (791, [some (.float 0), some (.ref 0), some (.ref 19), some (.int x3)], [.int (x3 + (1)), .float 0, .ref 0], σ)) 5 rfl ?_
                                          obtain ⟨hv, h⟩ := cnd_n h
                                          refine RU.sld rfl hv ?_
                                          obtain ⟨⟨v35, s35⟩, hk, h⟩ := Option.bind_eq_some_iff.mp h
                                          dsimp only at h
                                          refine RU.call (as := [.ref 0, .int (xs (Int32.toNatClampNeg (x3 + (1))))]) (rest := []) (u := some (.int v35)) (C' := (795, [some (.float 0), some (.ref 0), some (.ref 19), some (.int x3)], [.int v35], s35)) rfl rfl (m_X4_shorts (xs (Int32.toNatClampNeg (x3 + (1)))) σ hk) rfl rfl ?_
                                          refine RU.blk (C' := (800, [some (.float 0), some (.ref 0), some (.ref 19), some (.int x3)], [.int (x3 + (1)), .float 0, .ref 19, .int v35], s35)) 5 rfl ?_
                                          obtain ⟨hv, h⟩ := cnd_n h
                                          refine RU.sld rfl hv ?_
                                          obtain ⟨⟨v36, s36⟩, hk, h⟩ := Option.bind_eq_some_iff.mp h
                                          dsimp only at h
                                          refine RU.call (as := [.ref 19, .int (xs (Int32.toNatClampNeg (x3 + (1))))]) (rest := [.int v35]) (u := some (.int v36)) (C' := (804, [some (.float 0), some (.ref 0), some (.ref 19), some (.int x3)], [.int v36, .int v35], s36)) rfl rfl (m_X5_shorts (xs (Int32.toNatClampNeg (x3 + (1)))) s35 hk) rfl rfl ?_
                                          refine RU.blk (C' := (bif cEq v35 v36 then 1220 else 807, [some (.float 0), some (.ref 0), some (.ref 19), some (.int x3)], [], s36)) 1 rfl ?_
                                          rcases cnd_some h with ⟨hc, h⟩ | ⟨hc, h⟩
                                          · refine RU.tt hc ?_
                                            refine RU.blk (C' := (18, [some (.float 0), some (.ref 0), some (.ref 19), some (.int (x3 + (7)))], [], s36)) 2 rfl ?_
                                            exact ih (x3 + (7)) _ _ _ h
                                          · refine RU.ff hc ?_
                                            refine RU.blk (C' := (808, [some (.float 0), some (.ref 0), some (.ref 19), some (.int x3)], [.int (0)], s36)) 1 rfl ?_
                                            obtain ⟨rfl, rfl⟩ := ret_inj h
                                            exact RU.ret rfl rfl rfl
                                        · refine RU.ff hc ?_
                                          rcases cnd_some h with ⟨hc, h⟩ | ⟨hc, h⟩
                                          · refine RU.tt hc ?_
                                            refine RU.blk (C' := (814, [some (.float 0), some (.ref 0), some (.ref 19), some (.int x3)], [.int (x3 + (1)), .float 0, .ref 0], σ)) 5 rfl ?_
                                            obtain ⟨hv, h⟩ := cnd_n h
                                            refine RU.sld rfl hv ?_
                                            obtain ⟨⟨v37, s37⟩, hk, h⟩ := Option.bind_eq_some_iff.mp h
                                            dsimp only at h
                                            refine RU.call (as := [.ref 0, .int (xs (Int32.toNatClampNeg (x3 + (1))))]) (rest := []) (u := some (.int v37)) (C' := (818, [some (.float 0), some (.ref 0), some (.ref 19), some (.int x3)], [.int v37], s37)) rfl rfl (m_X4_kinds (xs (Int32.toNatClampNeg (x3 + (1)))) σ hk) rfl rfl ?_
                                            refine RU.blk (C' := (823, [some (.float 0), some (.ref 0), some (.ref 19), some (.int x3)], [.int (x3 + (1)), .float 0, .ref 19, .int v37], s37)) 5 rfl ?_
                                            obtain ⟨hv, h⟩ := cnd_n h
                                            refine RU.sld rfl hv ?_
                                            obtain ⟨⟨v38, s38⟩, hk, h⟩ := Option.bind_eq_some_iff.mp h
                                            dsimp only at h
                                            refine RU.call (as := [.ref 19, .int (xs (Int32.toNatClampNeg (x3 + (1))))]) (rest := [.int v37]) (u := some (.int v38)) (C' := (827, [some (.float 0), some (.ref 0), some (.ref 19), some (.int x3)], [.int v38, .int v37], s38)) rfl rfl (m_X5_kinds (xs (Int32.toNatClampNeg (x3 + (1)))) s37 hk) rfl rfl ?_
                                            refine RU.blk (C' := (bif cEq v37 v38 then 1220 else 830, [some (.float 0), some (.ref 0), some (.ref 19), some (.int x3)], [], s38)) 1 rfl ?_
                                            rcases cnd_some h with ⟨hc, h⟩ | ⟨hc, h⟩
                                            · refine RU.tt hc ?_
                                              refine RU.blk (C' := (18, [some (.float 0), some (.ref 0), some (.ref 19), some (.int (x3 + (7)))], [], s38)) 2 rfl ?_
                                              exact ih (x3 + (7)) _ _ _ h
                                            · refine RU.ff hc ?_
                                              refine RU.blk (C' := (831, [some (.float 0), some (.ref 0), some (.ref 19), some (.int x3)], [.int (0)], s38)) 1 rfl ?_
                                              obtain ⟨rfl, rfl⟩ := ret_inj h
                                              exact RU.ret rfl rfl rfl
                                          · refine RU.ff hc ?_
                                            rcases cnd_some h with ⟨hc, h⟩ | ⟨hc, h⟩
                                            · refine RU.tt hc ?_
                                              refine RU.blk (C' := (837, [some (.float 0), some (.ref 0), some (.ref 19), some (.int x3)], [.int (x3 + (1)), .float 0, .ref 0], σ)) 5 rfl ?_
                                              obtain ⟨hv, h⟩ := cnd_n h
                                              refine RU.sld rfl hv ?_
                                              refine RU.blk (C' := (842, [some (.float 0), some (.ref 0), some (.ref 19), some (.int x3)], [.int (x3 + (2)), .float 0, .int (xs (Int32.toNatClampNeg (x3 + (1)))), .ref 0], σ)) 4 rfl ?_
                                              obtain ⟨hv, h⟩ := cnd_n h
                                              refine RU.sld rfl hv ?_
                                              refine RU.blk (C' := (847, [some (.float 0), some (.ref 0), some (.ref 19), some (.int x3)], [.int (x3 + (3)), .float 0, .int (xs (Int32.toNatClampNeg (x3 + (2)))), .int (xs (Int32.toNatClampNeg (x3 + (1)))), .ref 0], σ)) 4 rfl ?_
                                              obtain ⟨hv, h⟩ := cnd_n h
                                              refine RU.sld rfl hv ?_
                                              obtain ⟨⟨v39, s39⟩, hk, h⟩ := Option.bind_eq_some_iff.mp h
                                              dsimp only at h
                                              refine RU.call (as := [.ref 0, .int (xs (Int32.toNatClampNeg (x3 + (1)))), .int (xs (Int32.toNatClampNeg (x3 + (2)))), .int (xs (Int32.toNatClampNeg (x3 + (3))))]) (rest := []) (u := some (.long v39)) (C' := (851, [some (.float 0), some (.ref 0), some (.ref 19), some (.int x3)], [.long v39], s39)) rfl rfl (m_X4_odds (xs (Int32.toNatClampNeg (x3 + (1)))) (xs (Int32.toNatClampNeg (x3 + (2)))) (xs (Int32.toNatClampNeg (x3 + (3)))) σ hk) rfl rfl ?_
                                              refine RU.blk (C' := (856, [some (.float 0), some (.ref 0), some (.ref 19), some (.int x3)], [.int (x3 + (1)), .float 0, .ref 19, .long v39], s39)) 5 rfl ?_
                                              obtain ⟨hv, h⟩ := cnd_n h
                                              refine RU.sld rfl hv ?_
                                              refine RU.blk (C' := (861, [some (.float 0), some (.ref 0), some (.ref 19), some (.int x3)], [.int (x3 + (2)), .float 0, .int (xs (Int32.toNatClampNeg (x3 + (1)))), .ref 19, .long v39], s39)) 4 rfl ?_
                                              obtain ⟨hv, h⟩ := cnd_n h
                                              refine RU.sld rfl hv ?_
                                              refine RU.blk (C' := (866, [some (.float 0), some (.ref 0), some (.ref 19), some (.int x3)], [.int (x3 + (3)), .float 0, .int (xs (Int32.toNatClampNeg (x3 + (2)))), .int (xs (Int32.toNatClampNeg (x3 + (1)))), .ref 19, .long v39], s39)) 4 rfl ?_
                                              obtain ⟨hv, h⟩ := cnd_n h
                                              refine RU.sld rfl hv ?_
                                              obtain ⟨⟨v40, s40⟩, hk, h⟩ := Option.bind_eq_some_iff.mp h
                                              dsimp only at h
                                              refine RU.call (as := [.ref 19, .int (xs (Int32.toNatClampNeg (x3 + (1)))), .int (xs (Int32.toNatClampNeg (x3 + (2)))), .int (xs (Int32.toNatClampNeg (x3 + (3))))]) (rest := [.long v39]) (u := some (.long v40)) (C' := (870, [some (.float 0), some (.ref 0), some (.ref 19), some (.int x3)], [.long v40, .long v39], s40)) rfl rfl (m_X5_odds (xs (Int32.toNatClampNeg (x3 + (1)))) (xs (Int32.toNatClampNeg (x3 + (2)))) (xs (Int32.toNatClampNeg (x3 + (3)))) s39 hk) rfl rfl ?_
                                              refine RU.blk (C' := (bif cEq (lg_cmp v39 v40) 0 then 1220 else 874, [some (.float 0), some (.ref 0), some (.ref 19), some (.int x3)], [], s40)) 2 rfl ?_
                                              rcases cnd_some h with ⟨hc, h⟩ | ⟨hc, h⟩
                                              · refine RU.tt hc ?_
                                                refine RU.blk (C' := (18, [some (.float 0), some (.ref 0), some (.ref 19), some (.int (x3 + (7)))], [], s40)) 2 rfl ?_
                                                exact ih (x3 + (7)) _ _ _ h
                                              · refine RU.ff hc ?_
                                                refine RU.blk (C' := (875, [some (.float 0), some (.ref 0), some (.ref 19), some (.int x3)], [.int (0)], s40)) 1 rfl ?_
                                                obtain ⟨rfl, rfl⟩ := ret_inj h
                                                exact RU.ret rfl rfl rfl
                                            · refine RU.ff hc ?_
                                              rcases cnd_some h with ⟨hc, h⟩ | ⟨hc, h⟩
                                              · refine RU.tt hc ?_
                                                refine RU.blk (C' := (881, [some (.float 0), some (.ref 0), some (.ref 19), some (.int x3)], [.int (x3 + (1)), .float 0, .ref 0], σ)) 5 rfl ?_
                                                obtain ⟨hv, h⟩ := cnd_n h
                                                refine RU.sld rfl hv ?_
                                                refine RU.blk (C' := (886, [some (.float 0), some (.ref 0), some (.ref 19), some (.int x3)], [.int (x3 + (2)), .float 0, .int (xs (Int32.toNatClampNeg (x3 + (1)))), .ref 0], σ)) 4 rfl ?_
                                                obtain ⟨hv, h⟩ := cnd_n h
                                                refine RU.sld rfl hv ?_
                                                refine RU.blk (C' := (891, [some (.float 0), some (.ref 0), some (.ref 19), some (.int x3)], [.int (x3 + (3)), .float 0, .int (xs (Int32.toNatClampNeg (x3 + (2)))), .int (xs (Int32.toNatClampNeg (x3 + (1)))), .ref 0], σ)) 4 rfl ?_
                                                obtain ⟨hv, h⟩ := cnd_n h
                                                refine RU.sld rfl hv ?_
                                                obtain ⟨⟨v41, s41⟩, hk, h⟩ := Option.bind_eq_some_iff.mp h
                                                dsimp only at h
                                                refine RU.call (as := [.ref 0, .int (xs (Int32.toNatClampNeg (x3 + (1)))), .int (xs (Int32.toNatClampNeg (x3 + (2)))), .int (xs (Int32.toNatClampNeg (x3 + (3))))]) (rest := []) (u := some (.int v41)) (C' := (895, [some (.float 0), some (.ref 0), some (.ref 19), some (.int x3)], [.int v41], s41)) rfl rfl (m_X4_sheet (xs (Int32.toNatClampNeg (x3 + (1)))) (xs (Int32.toNatClampNeg (x3 + (2)))) (xs (Int32.toNatClampNeg (x3 + (3)))) σ hk) rfl rfl ?_
                                                refine RU.blk (C' := (900, [some (.float 0), some (.ref 0), some (.ref 19), some (.int x3)], [.int (x3 + (1)), .float 0, .ref 19, .int v41], s41)) 5 rfl ?_
                                                obtain ⟨hv, h⟩ := cnd_n h
                                                refine RU.sld rfl hv ?_
                                                refine RU.blk (C' := (905, [some (.float 0), some (.ref 0), some (.ref 19), some (.int x3)], [.int (x3 + (2)), .float 0, .int (xs (Int32.toNatClampNeg (x3 + (1)))), .ref 19, .int v41], s41)) 4 rfl ?_
                                                obtain ⟨hv, h⟩ := cnd_n h
                                                refine RU.sld rfl hv ?_
                                                refine RU.blk (C' := (910, [some (.float 0), some (.ref 0), some (.ref 19), some (.int x3)], [.int (x3 + (3)), .float 0, .int (xs (Int32.toNatClampNeg (x3 + (2)))), .int (xs (Int32.toNatClampNeg (x3 + (1)))), .ref 19, .int v41], s41)) 4 rfl ?_
                                                obtain ⟨hv, h⟩ := cnd_n h
                                                refine RU.sld rfl hv ?_
                                                obtain ⟨⟨v42, s42⟩, hk, h⟩ := Option.bind_eq_some_iff.mp h
                                                dsimp only at h
                                                refine RU.call (as := [.ref 19, .int (xs (Int32.toNatClampNeg (x3 + (1)))), .int (xs (Int32.toNatClampNeg (x3 + (2)))), .int (xs (Int32.toNatClampNeg (x3 + (3))))]) (rest := [.int v41]) (u := some (.int v42)) (C' := (914, [some (.float 0), some (.ref 0), some (.ref 19), some (.int x3)], [.int v42, .int v41], s42)) rfl rfl (m_X5_sheet (xs (Int32.toNatClampNeg (x3 + (1)))) (xs (Int32.toNatClampNeg (x3 + (2)))) (xs (Int32.toNatClampNeg (x3 + (3)))) s41 hk) rfl rfl ?_
                                                refine RU.blk (C' := (bif cEq v41 v42 then 1220 else 917, [some (.float 0), some (.ref 0), some (.ref 19), some (.int x3)], [], s42)) 1 rfl ?_
                                                rcases cnd_some h with ⟨hc, h⟩ | ⟨hc, h⟩
                                                · refine RU.tt hc ?_
                                                  refine RU.blk (C' := (18, [some (.float 0), some (.ref 0), some (.ref 19), some (.int (x3 + (7)))], [], s42)) 2 rfl ?_
                                                  exact ih (x3 + (7)) _ _ _ h
                                                · refine RU.ff hc ?_
                                                  refine RU.blk (C' := (918, [some (.float 0), some (.ref 0), some (.ref 19), some (.int x3)], [.int (0)], s42)) 1 rfl ?_
                                                  obtain ⟨rfl, rfl⟩ := ret_inj h
                                                  exact RU.ret rfl rfl rfl
                                              · refine RU.ff hc ?_
                                                rcases cnd_some h with ⟨hc, h⟩ | ⟨hc, h⟩
                                                · refine RU.tt hc ?_
                                                  refine RU.blk (C' := (924, [some (.float 0), some (.ref 0), some (.ref 19), some (.int x3)], [.int (x3 + (1)), .float 0, .ref 0], σ)) 5 rfl ?_
                                                  obtain ⟨hv, h⟩ := cnd_n h
                                                  refine RU.sld rfl hv ?_
                                                  obtain ⟨⟨v43, s43⟩, hk, h⟩ := Option.bind_eq_some_iff.mp h
                                                  dsimp only at h
                                                  refine RU.call (as := [.ref 0, .int (xs (Int32.toNatClampNeg (x3 + (1))))]) (rest := []) (u := some (.int v43)) (C' := (928, [some (.float 0), some (.ref 0), some (.ref 19), some (.int x3)], [.int v43], s43)) rfl rfl (m_X4_lose (xs (Int32.toNatClampNeg (x3 + (1)))) σ hk) rfl rfl ?_
                                                  refine RU.blk (C' := (933, [some (.float 0), some (.ref 0), some (.ref 19), some (.int x3)], [.int (x3 + (1)), .float 0, .ref 19, .int v43], s43)) 5 rfl ?_
                                                  obtain ⟨hv, h⟩ := cnd_n h
                                                  refine RU.sld rfl hv ?_
                                                  obtain ⟨⟨v44, s44⟩, hk, h⟩ := Option.bind_eq_some_iff.mp h
                                                  dsimp only at h
                                                  refine RU.call (as := [.ref 19, .int (xs (Int32.toNatClampNeg (x3 + (1))))]) (rest := [.int v43]) (u := some (.int v44)) (C' := (937, [some (.float 0), some (.ref 0), some (.ref 19), some (.int x3)], [.int v44, .int v43], s44)) rfl rfl (m_X5_lose (xs (Int32.toNatClampNeg (x3 + (1)))) s43 hk) rfl rfl ?_
                                                  refine RU.blk (C' := (bif cEq v43 v44 then 1220 else 940, [some (.float 0), some (.ref 0), some (.ref 19), some (.int x3)], [], s44)) 1 rfl ?_
                                                  rcases cnd_some h with ⟨hc, h⟩ | ⟨hc, h⟩
                                                  · refine RU.tt hc ?_
                                                    refine RU.blk (C' := (18, [some (.float 0), some (.ref 0), some (.ref 19), some (.int (x3 + (7)))], [], s44)) 2 rfl ?_
                                                    exact ih (x3 + (7)) _ _ _ h
                                                  · refine RU.ff hc ?_
                                                    refine RU.blk (C' := (941, [some (.float 0), some (.ref 0), some (.ref 19), some (.int x3)], [.int (0)], s44)) 1 rfl ?_
                                                    obtain ⟨rfl, rfl⟩ := ret_inj h
                                                    exact RU.ret rfl rfl rfl
                                                · refine RU.ff hc ?_
                                                  rcases cnd_some h with ⟨hc, h⟩ | ⟨hc, h⟩
                                                  · refine RU.tt hc ?_
                                                    refine RU.blk (C' := (947, [some (.float 0), some (.ref 0), some (.ref 19), some (.int x3)], [.int (x3 + (1)), .float 0, .ref 0], σ)) 5 rfl ?_
                                                    obtain ⟨hv, h⟩ := cnd_n h
                                                    refine RU.sld rfl hv ?_
                                                    refine RU.blk (C' := (952, [some (.float 0), some (.ref 0), some (.ref 19), some (.int x3)], [.int (x3 + (2)), .float 0, .int (xs (Int32.toNatClampNeg (x3 + (1)))), .ref 0], σ)) 4 rfl ?_
                                                    obtain ⟨hv, h⟩ := cnd_n h
                                                    refine RU.sld rfl hv ?_
                                                    refine RU.blk (C' := (957, [some (.float 0), some (.ref 0), some (.ref 19), some (.int x3)], [.int (x3 + (3)), .float 0, .int (xs (Int32.toNatClampNeg (x3 + (2)))), .int (xs (Int32.toNatClampNeg (x3 + (1)))), .ref 0], σ)) 4 rfl ?_
                                                    obtain ⟨hv, h⟩ := cnd_n h
                                                    refine RU.sld rfl hv ?_
                                                    obtain ⟨⟨v45, s45⟩, hk, h⟩ := Option.bind_eq_some_iff.mp h
                                                    dsimp only at h
                                                    refine RU.call (as := [.ref 0, .int (xs (Int32.toNatClampNeg (x3 + (1)))), .int (xs (Int32.toNatClampNeg (x3 + (2)))), .int (xs (Int32.toNatClampNeg (x3 + (3))))]) (rest := []) (u := some (.int v45)) (C' := (961, [some (.float 0), some (.ref 0), some (.ref 19), some (.int x3)], [.int v45], s45)) rfl rfl (m_X4_put (xs (Int32.toNatClampNeg (x3 + (1)))) (xs (Int32.toNatClampNeg (x3 + (2)))) (xs (Int32.toNatClampNeg (x3 + (3)))) σ hk) rfl rfl ?_
                                                    refine RU.blk (C' := (966, [some (.float 0), some (.ref 0), some (.ref 19), some (.int x3)], [.int (x3 + (1)), .float 0, .ref 19, .int v45], s45)) 5 rfl ?_
                                                    obtain ⟨hv, h⟩ := cnd_n h
                                                    refine RU.sld rfl hv ?_
                                                    refine RU.blk (C' := (971, [some (.float 0), some (.ref 0), some (.ref 19), some (.int x3)], [.int (x3 + (2)), .float 0, .int (xs (Int32.toNatClampNeg (x3 + (1)))), .ref 19, .int v45], s45)) 4 rfl ?_
                                                    obtain ⟨hv, h⟩ := cnd_n h
                                                    refine RU.sld rfl hv ?_
                                                    refine RU.blk (C' := (976, [some (.float 0), some (.ref 0), some (.ref 19), some (.int x3)], [.int (x3 + (3)), .float 0, .int (xs (Int32.toNatClampNeg (x3 + (2)))), .int (xs (Int32.toNatClampNeg (x3 + (1)))), .ref 19, .int v45], s45)) 4 rfl ?_
                                                    obtain ⟨hv, h⟩ := cnd_n h
                                                    refine RU.sld rfl hv ?_
                                                    obtain ⟨⟨v46, s46⟩, hk, h⟩ := Option.bind_eq_some_iff.mp h
                                                    dsimp only at h
                                                    refine RU.call (as := [.ref 19, .int (xs (Int32.toNatClampNeg (x3 + (1)))), .int (xs (Int32.toNatClampNeg (x3 + (2)))), .int (xs (Int32.toNatClampNeg (x3 + (3))))]) (rest := [.int v45]) (u := some (.int v46)) (C' := (980, [some (.float 0), some (.ref 0), some (.ref 19), some (.int x3)], [.int v46, .int v45], s46)) rfl rfl (m_X5_put (xs (Int32.toNatClampNeg (x3 + (1)))) (xs (Int32.toNatClampNeg (x3 + (2)))) (xs (Int32.toNatClampNeg (x3 + (3)))) s45 hk) rfl rfl ?_
                                                    refine RU.blk (C' := (bif cEq v45 v46 then 1220 else 983, [some (.float 0), some (.ref 0), some (.ref 19), some (.int x3)], [], s46)) 1 rfl ?_
                                                    rcases cnd_some h with ⟨hc, h⟩ | ⟨hc, h⟩
                                                    · refine RU.tt hc ?_
                                                      refine RU.blk (C' := (18, [some (.float 0), some (.ref 0), some (.ref 19), some (.int (x3 + (7)))], [], s46)) 2 rfl ?_
                                                      exact ih (x3 + (7)) _ _ _ h
                                                    · refine RU.ff hc ?_
                                                      refine RU.blk (C' := (984, [some (.float 0), some (.ref 0), some (.ref 19), some (.int x3)], [.int (0)], s46)) 1 rfl ?_
                                                      obtain ⟨rfl, rfl⟩ := ret_inj h
                                                      exact RU.ret rfl rfl rfl
                                                  · refine RU.ff hc ?_
                                                    rcases cnd_some h with ⟨hc, h⟩ | ⟨hc, h⟩
                                                    · refine RU.tt hc ?_
                                                      refine RU.blk (C' := (990, [some (.float 0), some (.ref 0), some (.ref 19), some (.int x3)], [.int (x3 + (1)), .float 0, .ref 0], σ)) 5 rfl ?_
                                                      obtain ⟨hv, h⟩ := cnd_n h
                                                      refine RU.sld rfl hv ?_
                                                      refine RU.blk (C' := (995, [some (.float 0), some (.ref 0), some (.ref 19), some (.int x3)], [.int (x3 + (2)), .float 0, .int (xs (Int32.toNatClampNeg (x3 + (1)))), .ref 0], σ)) 4 rfl ?_
                                                      obtain ⟨hv, h⟩ := cnd_n h
                                                      refine RU.sld rfl hv ?_
                                                      refine RU.blk (C' := (1000, [some (.float 0), some (.ref 0), some (.ref 19), some (.int x3)], [.int (x3 + (3)), .float 0, .int (xs (Int32.toNatClampNeg (x3 + (2)))), .int (xs (Int32.toNatClampNeg (x3 + (1)))), .ref 0], σ)) 4 rfl ?_
                                                      obtain ⟨hv, h⟩ := cnd_n h
                                                      refine RU.sld rfl hv ?_
                                                      obtain ⟨⟨v47, s47⟩, hk, h⟩ := Option.bind_eq_some_iff.mp h
                                                      dsimp only at h
                                                      refine RU.call (as := [.ref 0, .int (xs (Int32.toNatClampNeg (x3 + (1)))), .int (xs (Int32.toNatClampNeg (x3 + (2)))), .int (xs (Int32.toNatClampNeg (x3 + (3))))]) (rest := []) (u := some (.long v47)) (C' := (1004, [some (.float 0), some (.ref 0), some (.ref 19), some (.int x3)], [.long v47], s47)) rfl rfl (m_X4_cell (xs (Int32.toNatClampNeg (x3 + (1)))) (xs (Int32.toNatClampNeg (x3 + (2)))) (xs (Int32.toNatClampNeg (x3 + (3)))) σ hk) rfl rfl ?_
                                                      refine RU.blk (C' := (1009, [some (.float 0), some (.ref 0), some (.ref 19), some (.int x3)], [.int (x3 + (1)), .float 0, .ref 19, .long v47], s47)) 5 rfl ?_
                                                      obtain ⟨hv, h⟩ := cnd_n h
                                                      refine RU.sld rfl hv ?_
                                                      refine RU.blk (C' := (1014, [some (.float 0), some (.ref 0), some (.ref 19), some (.int x3)], [.int (x3 + (2)), .float 0, .int (xs (Int32.toNatClampNeg (x3 + (1)))), .ref 19, .long v47], s47)) 4 rfl ?_
                                                      obtain ⟨hv, h⟩ := cnd_n h
                                                      refine RU.sld rfl hv ?_
                                                      refine RU.blk (C' := (1019, [some (.float 0), some (.ref 0), some (.ref 19), some (.int x3)], [.int (x3 + (3)), .float 0, .int (xs (Int32.toNatClampNeg (x3 + (2)))), .int (xs (Int32.toNatClampNeg (x3 + (1)))), .ref 19, .long v47], s47)) 4 rfl ?_
                                                      obtain ⟨hv, h⟩ := cnd_n h
                                                      refine RU.sld rfl hv ?_
                                                      obtain ⟨⟨v48, s48⟩, hk, h⟩ := Option.bind_eq_some_iff.mp h
                                                      dsimp only at h
                                                      refine RU.call (as := [.ref 19, .int (xs (Int32.toNatClampNeg (x3 + (1)))), .int (xs (Int32.toNatClampNeg (x3 + (2)))), .int (xs (Int32.toNatClampNeg (x3 + (3))))]) (rest := [.long v47]) (u := some (.long v48)) (C' := (1023, [some (.float 0), some (.ref 0), some (.ref 19), some (.int x3)], [.long v48, .long v47], s48)) rfl rfl (m_X5_cell (xs (Int32.toNatClampNeg (x3 + (1)))) (xs (Int32.toNatClampNeg (x3 + (2)))) (xs (Int32.toNatClampNeg (x3 + (3)))) s47 hk) rfl rfl ?_
                                                      refine RU.blk (C' := (bif cEq (lg_cmp v47 v48) 0 then 1220 else 1027, [some (.float 0), some (.ref 0), some (.ref 19), some (.int x3)], [], s48)) 2 rfl ?_
                                                      rcases cnd_some h with ⟨hc, h⟩ | ⟨hc, h⟩
                                                      · refine RU.tt hc ?_
                                                        refine RU.blk (C' := (18, [some (.float 0), some (.ref 0), some (.ref 19), some (.int (x3 + (7)))], [], s48)) 2 rfl ?_
                                                        exact ih (x3 + (7)) _ _ _ h
                                                      · refine RU.ff hc ?_
                                                        refine RU.blk (C' := (1028, [some (.float 0), some (.ref 0), some (.ref 19), some (.int x3)], [.int (0)], s48)) 1 rfl ?_
                                                        obtain ⟨rfl, rfl⟩ := ret_inj h
                                                        exact RU.ret rfl rfl rfl
                                                    · refine RU.ff hc ?_
                                                      rcases cnd_some h with ⟨hc, h⟩ | ⟨hc, h⟩
                                                      · refine RU.tt hc ?_
                                                        refine RU.blk (C' := (1034, [some (.float 0), some (.ref 0), some (.ref 19), some (.int x3)], [.int (x3 + (1)), .float 0, .ref 0], σ)) 5 rfl ?_
                                                        obtain ⟨hv, h⟩ := cnd_n h
                                                        refine RU.sld rfl hv ?_
                                                        refine RU.blk (C' := (1039, [some (.float 0), some (.ref 0), some (.ref 19), some (.int x3)], [.int (x3 + (2)), .float 0, .int (xs (Int32.toNatClampNeg (x3 + (1)))), .ref 0], σ)) 4 rfl ?_
                                                        obtain ⟨hv, h⟩ := cnd_n h
                                                        refine RU.sld rfl hv ?_
                                                        refine RU.blk (C' := (1044, [some (.float 0), some (.ref 0), some (.ref 19), some (.int x3)], [.int (x3 + (3)), .float 0, .int (xs (Int32.toNatClampNeg (x3 + (2)))), .int (xs (Int32.toNatClampNeg (x3 + (1)))), .ref 0], σ)) 4 rfl ?_
                                                        obtain ⟨hv, h⟩ := cnd_n h
                                                        refine RU.sld rfl hv ?_
                                                        refine RU.blk (C' := (1049, [some (.float 0), some (.ref 0), some (.ref 19), some (.int x3)], [.int (x3 + (4)), .float 0, .int (xs (Int32.toNatClampNeg (x3 + (3)))), .int (xs (Int32.toNatClampNeg (x3 + (2)))), .int (xs (Int32.toNatClampNeg (x3 + (1)))), .ref 0], σ)) 4 rfl ?_
                                                        obtain ⟨hv, h⟩ := cnd_n h
                                                        refine RU.sld rfl hv ?_
                                                        refine RU.blk (C' := (1054, [some (.float 0), some (.ref 0), some (.ref 19), some (.int x3)], [.int (x3 + (5)), .float 0, .int (xs (Int32.toNatClampNeg (x3 + (4)))), .int (xs (Int32.toNatClampNeg (x3 + (3)))), .int (xs (Int32.toNatClampNeg (x3 + (2)))), .int (xs (Int32.toNatClampNeg (x3 + (1)))), .ref 0], σ)) 4 rfl ?_
                                                        obtain ⟨hv, h⟩ := cnd_n h
                                                        refine RU.sld rfl hv ?_
                                                        obtain ⟨⟨v49, s49⟩, hk, h⟩ := Option.bind_eq_some_iff.mp h
                                                        dsimp only at h
                                                        refine RU.call (as := [.ref 0, .int (xs (Int32.toNatClampNeg (x3 + (1)))), .int (xs (Int32.toNatClampNeg (x3 + (2)))), .int (xs (Int32.toNatClampNeg (x3 + (3)))), .int (xs (Int32.toNatClampNeg (x3 + (4)))), .int (xs (Int32.toNatClampNeg (x3 + (5))))]) (rest := []) (u := some (.int v49)) (C' := (1058, [some (.float 0), some (.ref 0), some (.ref 19), some (.int x3)], [.int v49], s49)) rfl rfl (m_X4_copy (xs (Int32.toNatClampNeg (x3 + (1)))) (xs (Int32.toNatClampNeg (x3 + (2)))) (xs (Int32.toNatClampNeg (x3 + (3)))) (xs (Int32.toNatClampNeg (x3 + (4)))) (xs (Int32.toNatClampNeg (x3 + (5)))) σ hk) rfl rfl ?_
                                                        refine RU.blk (C' := (1063, [some (.float 0), some (.ref 0), some (.ref 19), some (.int x3)], [.int (x3 + (1)), .float 0, .ref 19, .int v49], s49)) 5 rfl ?_
                                                        obtain ⟨hv, h⟩ := cnd_n h
                                                        refine RU.sld rfl hv ?_
                                                        refine RU.blk (C' := (1068, [some (.float 0), some (.ref 0), some (.ref 19), some (.int x3)], [.int (x3 + (2)), .float 0, .int (xs (Int32.toNatClampNeg (x3 + (1)))), .ref 19, .int v49], s49)) 4 rfl ?_
                                                        obtain ⟨hv, h⟩ := cnd_n h
                                                        refine RU.sld rfl hv ?_
                                                        refine RU.blk (C' := (1073, [some (.float 0), some (.ref 0), some (.ref 19), some (.int x3)], [.int (x3 + (3)), .float 0, .int (xs (Int32.toNatClampNeg (x3 + (2)))), .int (xs (Int32.toNatClampNeg (x3 + (1)))), .ref 19, .int v49], s49)) 4 rfl ?_
                                                        obtain ⟨hv, h⟩ := cnd_n h
                                                        refine RU.sld rfl hv ?_
                                                        refine RU.blk (C' := (1078, [some (.float 0), some (.ref 0), some (.ref 19), some (.int x3)], [.int (x3 + (4)), .float 0, .int (xs (Int32.toNatClampNeg (x3 + (3)))), .int (xs (Int32.toNatClampNeg (x3 + (2)))), .int (xs (Int32.toNatClampNeg (x3 + (1)))), .ref 19, .int v49], s49)) 4 rfl ?_
                                                        obtain ⟨hv, h⟩ := cnd_n h
                                                        refine RU.sld rfl hv ?_
                                                        refine RU.blk (C' := (1083, [some (.float 0), some (.ref 0), some (.ref 19), some (.int x3)], [.int (x3 + (5)), .float 0, .int (xs (Int32.toNatClampNeg (x3 + (4)))), .int (xs (Int32.toNatClampNeg (x3 + (3)))), .int (xs (Int32.toNatClampNeg (x3 + (2)))), .int (xs (Int32.toNatClampNeg (x3 + (1)))), .ref 19, .int v49], s49)) 4 rfl ?_
                                                        obtain ⟨hv, h⟩ := cnd_n h
                                                        refine RU.sld rfl hv ?_
                                                        obtain ⟨⟨v50, s50⟩, hk, h⟩ := Option.bind_eq_some_iff.mp h
                                                        dsimp only at h
                                                        refine RU.call (as := [.ref 19, .int (xs (Int32.toNatClampNeg (x3 + (1)))), .int (xs (Int32.toNatClampNeg (x3 + (2)))), .int (xs (Int32.toNatClampNeg (x3 + (3)))), .int (xs (Int32.toNatClampNeg (x3 + (4)))), .int (xs (Int32.toNatClampNeg (x3 + (5))))]) (rest := [.int v49]) (u := some (.int v50)) (C' := (1087, [some (.float 0), some (.ref 0), some (.ref 19), some (.int x3)], [.int v50, .int v49], s50)) rfl rfl (m_X5_copy (xs (Int32.toNatClampNeg (x3 + (1)))) (xs (Int32.toNatClampNeg (x3 + (2)))) (xs (Int32.toNatClampNeg (x3 + (3)))) (xs (Int32.toNatClampNeg (x3 + (4)))) (xs (Int32.toNatClampNeg (x3 + (5)))) s49 hk) rfl rfl ?_
                                                        refine RU.blk (C' := (bif cEq v49 v50 then 1220 else 1090, [some (.float 0), some (.ref 0), some (.ref 19), some (.int x3)], [], s50)) 1 rfl ?_
                                                        rcases cnd_some h with ⟨hc, h⟩ | ⟨hc, h⟩
                                                        · refine RU.tt hc ?_
                                                          refine RU.blk (C' := (18, [some (.float 0), some (.ref 0), some (.ref 19), some (.int (x3 + (7)))], [], s50)) 2 rfl ?_
                                                          exact ih (x3 + (7)) _ _ _ h
                                                        · refine RU.ff hc ?_
                                                          refine RU.blk (C' := (1091, [some (.float 0), some (.ref 0), some (.ref 19), some (.int x3)], [.int (0)], s50)) 1 rfl ?_
                                                          obtain ⟨rfl, rfl⟩ := ret_inj h
                                                          exact RU.ret rfl rfl rfl
                                                      · refine RU.ff hc ?_
                                                        rcases cnd_some h with ⟨hc, h⟩ | ⟨hc, h⟩
                                                        · refine RU.tt hc ?_
                                                          refine RU.blk (C' := (1097, [some (.float 0), some (.ref 0), some (.ref 19), some (.int x3)], [.int (x3 + (1)), .float 0, .ref 0], σ)) 5 rfl ?_
                                                          obtain ⟨hv, h⟩ := cnd_n h
                                                          refine RU.sld rfl hv ?_
                                                          obtain ⟨⟨v51, s51⟩, hk, h⟩ := Option.bind_eq_some_iff.mp h
                                                          dsimp only at h
                                                          refine RU.call (as := [.ref 0, .int (xs (Int32.toNatClampNeg (x3 + (1))))]) (rest := []) (u := some (.int v51)) (C' := (1101, [some (.float 0), some (.ref 0), some (.ref 19), some (.int x3)], [.int v51], s51)) rfl rfl (m_X4_tell (xs (Int32.toNatClampNeg (x3 + (1)))) σ hk) rfl rfl ?_
                                                          refine RU.blk (C' := (1106, [some (.float 0), some (.ref 0), some (.ref 19), some (.int x3)], [.int (x3 + (1)), .float 0, .ref 19, .int v51], s51)) 5 rfl ?_
                                                          obtain ⟨hv, h⟩ := cnd_n h
                                                          refine RU.sld rfl hv ?_
                                                          obtain ⟨⟨v52, s52⟩, hk, h⟩ := Option.bind_eq_some_iff.mp h
                                                          dsimp only at h
                                                          refine RU.call (as := [.ref 19, .int (xs (Int32.toNatClampNeg (x3 + (1))))]) (rest := [.int v51]) (u := some (.int v52)) (C' := (1110, [some (.float 0), some (.ref 0), some (.ref 19), some (.int x3)], [.int v52, .int v51], s52)) rfl rfl (m_X5_tell (xs (Int32.toNatClampNeg (x3 + (1)))) s51 hk) rfl rfl ?_
                                                          refine RU.blk (C' := (bif cEq v51 v52 then 1220 else 1113, [some (.float 0), some (.ref 0), some (.ref 19), some (.int x3)], [], s52)) 1 rfl ?_
                                                          rcases cnd_some h with ⟨hc, h⟩ | ⟨hc, h⟩
                                                          · refine RU.tt hc ?_
                                                            refine RU.blk (C' := (18, [some (.float 0), some (.ref 0), some (.ref 19), some (.int (x3 + (7)))], [], s52)) 2 rfl ?_
                                                            exact ih (x3 + (7)) _ _ _ h
                                                          · refine RU.ff hc ?_
                                                            refine RU.blk (C' := (1114, [some (.float 0), some (.ref 0), some (.ref 19), some (.int x3)], [.int (0)], s52)) 1 rfl ?_
                                                            obtain ⟨rfl, rfl⟩ := ret_inj h
                                                            exact RU.ret rfl rfl rfl
                                                        · refine RU.ff hc ?_
                                                          rcases cnd_some h with ⟨hc, h⟩ | ⟨hc, h⟩
                                                          · refine RU.tt hc ?_
                                                            refine RU.blk (C' := (1120, [some (.float 0), some (.ref 0), some (.ref 19), some (.int x3)], [.int (x3 + (1)), .float 0, .ref 0], σ)) 5 rfl ?_
                                                            obtain ⟨hv, h⟩ := cnd_n h
                                                            refine RU.sld rfl hv ?_
                                                            obtain ⟨⟨v53, s53⟩, hk, h⟩ := Option.bind_eq_some_iff.mp h
                                                            dsimp only at h
                                                            refine RU.call (as := [.ref 0, .int (xs (Int32.toNatClampNeg (x3 + (1))))]) (rest := []) (u := some (.int v53)) (C' := (1124, [some (.float 0), some (.ref 0), some (.ref 19), some (.int x3)], [.int v53], s53)) rfl rfl (m_X4_greet (xs (Int32.toNatClampNeg (x3 + (1)))) σ hk) rfl rfl ?_
                                                            refine RU.blk (C' := (1129, [some (.float 0), some (.ref 0), some (.ref 19), some (.int x3)], [.int (x3 + (1)), .float 0, .ref 19, .int v53], s53)) 5 rfl ?_
                                                            obtain ⟨hv, h⟩ := cnd_n h
                                                            refine RU.sld rfl hv ?_
                                                            obtain ⟨⟨v54, s54⟩, hk, h⟩ := Option.bind_eq_some_iff.mp h
                                                            dsimp only at h
                                                            refine RU.call (as := [.ref 19, .int (xs (Int32.toNatClampNeg (x3 + (1))))]) (rest := [.int v53]) (u := some (.int v54)) (C' := (1133, [some (.float 0), some (.ref 0), some (.ref 19), some (.int x3)], [.int v54, .int v53], s54)) rfl rfl (m_X5_greet (xs (Int32.toNatClampNeg (x3 + (1)))) s53 hk) rfl rfl ?_
                                                            refine RU.blk (C' := (bif cEq v53 v54 then 1220 else 1136, [some (.float 0), some (.ref 0), some (.ref 19), some (.int x3)], [], s54)) 1 rfl ?_
                                                            rcases cnd_some h with ⟨hc, h⟩ | ⟨hc, h⟩
                                                            · refine RU.tt hc ?_
                                                              refine RU.blk (C' := (18, [some (.float 0), some (.ref 0), some (.ref 19), some (.int (x3 + (7)))], [], s54)) 2 rfl ?_
                                                              exact ih (x3 + (7)) _ _ _ h
                                                            · refine RU.ff hc ?_
                                                              refine RU.blk (C' := (1137, [some (.float 0), some (.ref 0), some (.ref 19), some (.int x3)], [.int (0)], s54)) 1 rfl ?_
                                                              obtain ⟨rfl, rfl⟩ := ret_inj h
                                                              exact RU.ret rfl rfl rfl
                                                          · refine RU.ff hc ?_
                                                            rcases cnd_some h with ⟨hc, h⟩ | ⟨hc, h⟩
                                                            · refine RU.tt hc ?_
                                                              refine RU.blk (C' := (1143, [some (.float 0), some (.ref 0), some (.ref 19), some (.int x3)], [.int (x3 + (1)), .float 0, .ref 0], σ)) 5 rfl ?_
                                                              obtain ⟨hv, h⟩ := cnd_n h
                                                              refine RU.sld rfl hv ?_
                                                              refine RU.blk (C' := (1148, [some (.float 0), some (.ref 0), some (.ref 19), some (.int x3)], [.int (x3 + (2)), .float 0, .int (xs (Int32.toNatClampNeg (x3 + (1)))), .ref 0], σ)) 4 rfl ?_
                                                              obtain ⟨hv, h⟩ := cnd_n h
                                                              refine RU.sld rfl hv ?_
                                                              obtain ⟨⟨v55, s55⟩, hk, h⟩ := Option.bind_eq_some_iff.mp h
                                                              dsimp only at h
                                                              refine RU.call (as := [.ref 0, .int (xs (Int32.toNatClampNeg (x3 + (1)))), .int (xs (Int32.toNatClampNeg (x3 + (2))))]) (rest := []) (u := some (.int v55)) (C' := (1152, [some (.float 0), some (.ref 0), some (.ref 19), some (.int x3)], [.int v55], s55)) rfl rfl (m_X4_as (xs (Int32.toNatClampNeg (x3 + (1)))) (xs (Int32.toNatClampNeg (x3 + (2)))) σ hk) rfl rfl ?_
                                                              refine RU.blk (C' := (1157, [some (.float 0), some (.ref 0), some (.ref 19), some (.int x3)], [.int (x3 + (1)), .float 0, .ref 19, .int v55], s55)) 5 rfl ?_
                                                              obtain ⟨hv, h⟩ := cnd_n h
                                                              refine RU.sld rfl hv ?_
                                                              refine RU.blk (C' := (1162, [some (.float 0), some (.ref 0), some (.ref 19), some (.int x3)], [.int (x3 + (2)), .float 0, .int (xs (Int32.toNatClampNeg (x3 + (1)))), .ref 19, .int v55], s55)) 4 rfl ?_
                                                              obtain ⟨hv, h⟩ := cnd_n h
                                                              refine RU.sld rfl hv ?_
                                                              obtain ⟨⟨v56, s56⟩, hk, h⟩ := Option.bind_eq_some_iff.mp h
                                                              dsimp only at h
                                                              refine RU.call (as := [.ref 19, .int (xs (Int32.toNatClampNeg (x3 + (1)))), .int (xs (Int32.toNatClampNeg (x3 + (2))))]) (rest := [.int v55]) (u := some (.int v56)) (C' := (1166, [some (.float 0), some (.ref 0), some (.ref 19), some (.int x3)], [.int v56, .int v55], s56)) rfl rfl (m_X5_as (xs (Int32.toNatClampNeg (x3 + (1)))) (xs (Int32.toNatClampNeg (x3 + (2)))) s55 hk) rfl rfl ?_
                                                              refine RU.blk (C' := (bif cEq v55 v56 then 1220 else 1169, [some (.float 0), some (.ref 0), some (.ref 19), some (.int x3)], [], s56)) 1 rfl ?_
                                                              rcases cnd_some h with ⟨hc, h⟩ | ⟨hc, h⟩
                                                              · refine RU.tt hc ?_
                                                                refine RU.blk (C' := (18, [some (.float 0), some (.ref 0), some (.ref 19), some (.int (x3 + (7)))], [], s56)) 2 rfl ?_
                                                                exact ih (x3 + (7)) _ _ _ h
                                                              · refine RU.ff hc ?_
                                                                refine RU.blk (C' := (1170, [some (.float 0), some (.ref 0), some (.ref 19), some (.int x3)], [.int (0)], s56)) 1 rfl ?_
                                                                obtain ⟨rfl, rfl⟩ := ret_inj h
                                                                exact RU.ret rfl rfl rfl
                                                            · refine RU.ff hc ?_
                                                              rcases cnd_some h with ⟨hc, h⟩ | ⟨hc, h⟩
                                                              · refine RU.tt hc ?_
                                                                refine RU.blk (C' := (1172, [some (.float 0), some (.ref 0), some (.ref 19), some (.int x3)], [.ref 0], σ)) 1 rfl ?_
                                                                obtain ⟨⟨v57, s57⟩, hk, h⟩ := Option.bind_eq_some_iff.mp h
                                                                dsimp only at h
                                                                refine RU.call (as := [.ref 0]) (rest := []) (u := some (.int v57)) (C' := (1175, [some (.float 0), some (.ref 0), some (.ref 19), some (.int x3)], [.int v57], s57)) rfl rfl (m_X4_trace σ hk) rfl rfl ?_
                                                                refine RU.blk (C' := (1176, [some (.float 0), some (.ref 0), some (.ref 19), some (.int x3)], [.ref 19, .int v57], s57)) 1 rfl ?_
                                                                obtain ⟨⟨v58, s58⟩, hk, h⟩ := Option.bind_eq_some_iff.mp h
                                                                dsimp only at h
                                                                refine RU.call (as := [.ref 19]) (rest := [.int v57]) (u := some (.int v58)) (C' := (1179, [some (.float 0), some (.ref 0), some (.ref 19), some (.int x3)], [.int v58, .int v57], s58)) rfl rfl (m_X5_trace s57 hk) rfl rfl ?_
                                                                refine RU.blk (C' := (bif cEq v57 v58 then 1220 else 1182, [some (.float 0), some (.ref 0), some (.ref 19), some (.int x3)], [], s58)) 1 rfl ?_
                                                                rcases cnd_some h with ⟨hc, h⟩ | ⟨hc, h⟩
                                                                · refine RU.tt hc ?_
                                                                  refine RU.blk (C' := (18, [some (.float 0), some (.ref 0), some (.ref 19), some (.int (x3 + (7)))], [], s58)) 2 rfl ?_
                                                                  exact ih (x3 + (7)) _ _ _ h
                                                                · refine RU.ff hc ?_
                                                                  refine RU.blk (C' := (1183, [some (.float 0), some (.ref 0), some (.ref 19), some (.int x3)], [.int (0)], s58)) 1 rfl ?_
                                                                  obtain ⟨rfl, rfl⟩ := ret_inj h
                                                                  exact RU.ret rfl rfl rfl
                                                              · refine RU.ff hc ?_
                                                                rcases cnd_some h with ⟨hc, h⟩ | ⟨hc, h⟩
                                                                · refine RU.tt hc ?_
                                                                  refine RU.blk (C' := (1185, [some (.float 0), some (.ref 0), some (.ref 19), some (.int x3)], [.ref 0], σ)) 1 rfl ?_
                                                                  obtain ⟨⟨v59, s59⟩, hk, h⟩ := Option.bind_eq_some_iff.mp h
                                                                  dsimp only at h
                                                                  refine RU.call (as := [.ref 0]) (rest := []) (u := some (.int v59)) (C' := (1188, [some (.float 0), some (.ref 0), some (.ref 19), some (.int x3)], [.int v59], s59)) rfl rfl (m_X4_fault σ hk) rfl rfl ?_
                                                                  refine RU.blk (C' := (1189, [some (.float 0), some (.ref 0), some (.ref 19), some (.int x3)], [.ref 19, .int v59], s59)) 1 rfl ?_
                                                                  obtain ⟨⟨v60, s60⟩, hk, h⟩ := Option.bind_eq_some_iff.mp h
                                                                  dsimp only at h
                                                                  refine RU.call (as := [.ref 19]) (rest := [.int v59]) (u := some (.int v60)) (C' := (1192, [some (.float 0), some (.ref 0), some (.ref 19), some (.int x3)], [.int v60, .int v59], s60)) rfl rfl (m_X5_fault s59 hk) rfl rfl ?_
                                                                  refine RU.blk (C' := (bif cEq v59 v60 then 1220 else 1195, [some (.float 0), some (.ref 0), some (.ref 19), some (.int x3)], [], s60)) 1 rfl ?_
                                                                  rcases cnd_some h with ⟨hc, h⟩ | ⟨hc, h⟩
                                                                  · refine RU.tt hc ?_
                                                                    refine RU.blk (C' := (18, [some (.float 0), some (.ref 0), some (.ref 19), some (.int (x3 + (7)))], [], s60)) 2 rfl ?_
                                                                    exact ih (x3 + (7)) _ _ _ h
                                                                  · refine RU.ff hc ?_
                                                                    refine RU.blk (C' := (1196, [some (.float 0), some (.ref 0), some (.ref 19), some (.int x3)], [.int (0)], s60)) 1 rfl ?_
                                                                    obtain ⟨rfl, rfl⟩ := ret_inj h
                                                                    exact RU.ret rfl rfl rfl
                                                                · refine RU.ff hc ?_
                                                                  rcases cnd_some h with ⟨hc, h⟩ | ⟨hc, h⟩
                                                                  · refine RU.tt hc ?_
                                                                    refine RU.blk (C' := (1202, [some (.float 0), some (.ref 0), some (.ref 19), some (.int x3)], [.int (x3 + (1)), .float 0, .ref 0], σ)) 5 rfl ?_
                                                                    obtain ⟨hv, h⟩ := cnd_n h
                                                                    refine RU.sld rfl hv ?_
                                                                    obtain ⟨⟨v61, s61⟩, hk, h⟩ := Option.bind_eq_some_iff.mp h
                                                                    dsimp only at h
                                                                    refine RU.call (as := [.ref 0, .int (xs (Int32.toNatClampNeg (x3 + (1))))]) (rest := []) (u := some (.int v61)) (C' := (1206, [some (.float 0), some (.ref 0), some (.ref 19), some (.int x3)], [.int v61], s61)) rfl rfl (m_X4_many (xs (Int32.toNatClampNeg (x3 + (1)))) σ hk) rfl rfl ?_
                                                                    refine RU.blk (C' := (1211, [some (.float 0), some (.ref 0), some (.ref 19), some (.int x3)], [.int (x3 + (1)), .float 0, .ref 19, .int v61], s61)) 5 rfl ?_
                                                                    obtain ⟨hv, h⟩ := cnd_n h
                                                                    refine RU.sld rfl hv ?_
                                                                    obtain ⟨⟨v62, s62⟩, hk, h⟩ := Option.bind_eq_some_iff.mp h
                                                                    dsimp only at h
                                                                    refine RU.call (as := [.ref 19, .int (xs (Int32.toNatClampNeg (x3 + (1))))]) (rest := [.int v61]) (u := some (.int v62)) (C' := (1215, [some (.float 0), some (.ref 0), some (.ref 19), some (.int x3)], [.int v62, .int v61], s62)) rfl rfl (m_X5_many (xs (Int32.toNatClampNeg (x3 + (1)))) s61 hk) rfl rfl ?_
                                                                    refine RU.blk (C' := (bif cEq v61 v62 then 1220 else 1218, [some (.float 0), some (.ref 0), some (.ref 19), some (.int x3)], [], s62)) 1 rfl ?_
                                                                    rcases cnd_some h with ⟨hc, h⟩ | ⟨hc, h⟩
                                                                    · refine RU.tt hc ?_
                                                                      refine RU.blk (C' := (18, [some (.float 0), some (.ref 0), some (.ref 19), some (.int (x3 + (7)))], [], s62)) 2 rfl ?_
                                                                      exact ih (x3 + (7)) _ _ _ h
                                                                    · refine RU.ff hc ?_
                                                                      refine RU.blk (C' := (1219, [some (.float 0), some (.ref 0), some (.ref 19), some (.int x3)], [.int (0)], s62)) 1 rfl ?_
                                                                      obtain ⟨rfl, rfl⟩ := ret_inj h
                                                                      exact RU.ret rfl rfl rfl
                                                                  · refine RU.ff hc ?_
                                                                    refine RU.blk (C' := (18, [some (.float 0), some (.ref 0), some (.ref 19), some (.int (x3 + (7)))], [], σ)) 2 rfl ?_
                                                                    exact ih (x3 + (7)) _ _ _ h
