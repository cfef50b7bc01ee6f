/-! the tables are the methods' code: by program -/
theorem dX5_dim_0 : decode cX5_dim 0 = .ok (.aload_n 0, 1) := by decide +kernel
theorem dX5_dim_1 : decode cX5_dim 1 = .ok (.iload_n 1, 1) := by decide +kernel
theorem dX5_dim_2 : decode cX5_dim 2 = .ok (.invokevirtual 160, 3) := by decide +kernel
theorem dX5_dim_5 : decode cX5_dim 5 = .ok (.ifCond .eq 5, 3) := by decide +kernel
theorem dX5_dim_8 : decode cX5_dim 8 = .ok (.iconst (-1), 1) := by decide +kernel
theorem dX5_dim_9 : decode cX5_dim 9 = .ok (.ireturn, 1) := by decide +kernel
theorem dX5_dim_10 : decode cX5_dim 10 = .ok (.iload_n 2, 1) := by decide +kernel
theorem dX5_dim_11 : decode cX5_dim 11 = .ok (.i2l, 1) := by decide +kernel
theorem dX5_dim_12 : decode cX5_dim 12 = .ok (.lconst 0, 1) := by decide +kernel
theorem dX5_dim_13 : decode cX5_dim 13 = .ok (.ldc2_w 169, 3) := by decide +kernel
theorem dX5_dim_16 : decode cX5_dim 16 = .ok (.invokestatic 65, 3) := by decide +kernel
theorem dX5_dim_19 : decode cX5_dim 19 = .ok (.ifCond .ne 6, 3) := by decide +kernel
theorem dX5_dim_22 : decode cX5_dim 22 = .ok (.bipush (-2), 2) := by decide +kernel
theorem dX5_dim_24 : decode cX5_dim 24 = .ok (.ireturn, 1) := by decide +kernel
theorem dX5_dim_25 : decode cX5_dim 25 = .ok (.aload_n 0, 1) := by decide +kernel
theorem dX5_dim_26 : decode cX5_dim 26 = .ok (.getfield 16, 3) := by decide +kernel
theorem dX5_dim_29 : decode cX5_dim 29 = .ok (.iload_n 1, 1) := by decide +kernel
theorem dX5_dim_30 : decode cX5_dim 30 = .ok (.iaload, 1) := by decide +kernel
theorem dX5_dim_31 : decode cX5_dim 31 = .ok (.istore_n 3, 1) := by decide +kernel
theorem dX5_dim_32 : decode cX5_dim 32 = .ok (.aload_n 0, 1) := by decide +kernel
theorem dX5_dim_33 : decode cX5_dim 33 = .ok (.getfield 16, 3) := by decide +kernel
theorem dX5_dim_36 : decode cX5_dim 36 = .ok (.iload_n 1, 1) := by decide +kernel
theorem dX5_dim_37 : decode cX5_dim 37 = .ok (.iload_n 2, 1) := by decide +kernel
theorem dX5_dim_38 : decode cX5_dim 38 = .ok (.iastore, 1) := by decide +kernel
theorem dX5_dim_39 : decode cX5_dim 39 = .ok (.iload_n 3, 1) := by decide +kernel
theorem dX5_dim_40 : decode cX5_dim 40 = .ok (.ireturn, 1) := by decide +kernel
set_option maxRecDepth 20000 in
theorem tkX5_dim : ∀ q ∈ tbX5_dim, xOk (Zm false yX5_dim.name) RX5 cX5_dim 4 (some .int) pT pY q :=
  fa_c (ok_p (xg_load _ _ _) (x_aload_n dX5_dim_0 rfl)) <|
  fa_c (ok_p (xg_load _ _ _) (x_iload_n dX5_dim_1 rfl)) <|
  fa_c (ok_c pT_130 pY_130 (x_callV (n := 1) (C := RX5) (T := TX5) (N := 34) rfl rfl kw843 kw845 kw36 kw63 kw846 (by decide +kernel) dX5_dim_2)) <|
  fa_c (ok_p (xg_if _ _ _) (x_if_eq dX5_dim_5 (by decide))) <|
  fa_c (ok_p (xg_st _ _) (x_iconst dX5_dim_8 rfl)) <|
  fa_c (ok_r ⟨rfl, dX5_dim_9⟩) <|
  fa_c (ok_p (xg_load _ _ _) (x_iload_n dX5_dim_10 rfl)) <|
  fa_c (ok_p (xg_st _ _) (x_i2l dX5_dim_11)) <|
  fa_c (ok_p (xg_st _ _) (x_lconst dX5_dim_12 rfl)) <|
  fa_c (ok_p (xg_st _ _) (x_ldc2 dX5_dim_13 kw863)) <|
  fa_c (ok_c pT_122 pY_122 (x_callS (n := 3) rfl kw789 kw790 kw63 kw791 (by decide +kernel) dX5_dim_16)) <|
  fa_c (ok_p (xg_if _ _ _) (x_if_ne dX5_dim_19 (by decide))) <|
  fa_c (ok_p (xg_st _ _) (x_bipush dX5_dim_22 rfl)) <|
  fa_c (ok_r ⟨rfl, dX5_dim_24⟩) <|
  fa_c (ok_p (xg_load _ _ _) (x_aload_n dX5_dim_25 rfl)) <|
  fa_c (ok_p (xg_getf _ _ _) (x_getf (C := RX5) (T := TX5) (N := 34) rfl (by decide) inX5 kw689 dX5_dim_26)) <|
  fa_c (ok_p (xg_load _ _ _) (x_iload_n dX5_dim_29 rfl)) <|
  fa_c (ok_p (xg_iald _) (x_iald dX5_dim_30)) <|
  fa_c (ok_p (xg_store _ _ _) (x_istore_n dX5_dim_31 rfl)) <|
  fa_c (ok_p (xg_load _ _ _) (x_aload_n dX5_dim_32 rfl)) <|
  fa_c (ok_p (xg_getf _ _ _) (x_getf (C := RX5) (T := TX5) (N := 34) rfl (by decide) inX5 kw689 dX5_dim_33)) <|
  fa_c (ok_p (xg_load _ _ _) (x_iload_n dX5_dim_36 rfl)) <|
  fa_c (ok_p (xg_load _ _ _) (x_iload_n dX5_dim_37 rfl)) <|
  fa_c (ok_p (xg_iast _) (x_iast dX5_dim_38)) <|
  fa_c (ok_p (xg_load _ _ _) (x_iload_n dX5_dim_39 rfl)) <|
  fa_c (ok_r ⟨rfl, dX5_dim_40⟩) <|
  fa_n
theorem dX5_scrape_0 : decode cX5_scrape 0 = .ok (.aload_n 0, 1) := by decide +kernel
theorem dX5_scrape_1 : decode cX5_scrape 1 = .ok (.iload_n 1, 1) := by decide +kernel
theorem dX5_scrape_2 : decode cX5_scrape 2 = .ok (.invokevirtual 160, 3) := by decide +kernel
theorem dX5_scrape_5 : decode cX5_scrape 5 = .ok (.ifCond .eq 5, 3) := by decide +kernel
theorem dX5_scrape_8 : decode cX5_scrape 8 = .ok (.iconst (-1), 1) := by decide +kernel
theorem dX5_scrape_9 : decode cX5_scrape 9 = .ok (.ireturn, 1) := by decide +kernel
theorem dX5_scrape_10 : decode cX5_scrape 10 = .ok (.aload_n 0, 1) := by decide +kernel
theorem dX5_scrape_11 : decode cX5_scrape 11 = .ok (.getfield 141, 3) := by decide +kernel
theorem dX5_scrape_14 : decode cX5_scrape 14 = .ok (.iload_n 1, 1) := by decide +kernel
theorem dX5_scrape_15 : decode cX5_scrape 15 = .ok (.invokestatic 154, 3) := by decide +kernel
theorem dX5_scrape_18 : decode cX5_scrape 18 = .ok (.ifCond .eq 6, 3) := by decide +kernel
theorem dX5_scrape_21 : decode cX5_scrape 21 = .ok (.bipush (-3), 2) := by decide +kernel
theorem dX5_scrape_23 : decode cX5_scrape 23 = .ok (.ireturn, 1) := by decide +kernel
theorem dX5_scrape_24 : decode cX5_scrape 24 = .ok (.aload_n 0, 1) := by decide +kernel
theorem dX5_scrape_25 : decode cX5_scrape 25 = .ok (.dup, 1) := by decide +kernel
theorem dX5_scrape_26 : decode cX5_scrape 26 = .ok (.getfield 141, 3) := by decide +kernel
theorem dX5_scrape_29 : decode cX5_scrape 29 = .ok (.iconst 1, 1) := by decide +kernel
theorem dX5_scrape_30 : decode cX5_scrape 30 = .ok (.iload_n 1, 1) := by decide +kernel
theorem dX5_scrape_31 : decode cX5_scrape 31 = .ok (.ishl, 1) := by decide +kernel
theorem dX5_scrape_32 : decode cX5_scrape 32 = .ok (.ior, 1) := by decide +kernel
theorem dX5_scrape_33 : decode cX5_scrape 33 = .ok (.putfield 141, 3) := by decide +kernel
theorem dX5_scrape_36 : decode cX5_scrape 36 = .ok (.aload_n 0, 1) := by decide +kernel
theorem dX5_scrape_37 : decode cX5_scrape 37 = .ok (.getfield 62, 3) := by decide +kernel
theorem dX5_scrape_40 : decode cX5_scrape 40 = .ok (.aload_n 0, 1) := by decide +kernel
theorem dX5_scrape_41 : decode cX5_scrape 41 = .ok (.getfield 141, 3) := by decide +kernel
theorem dX5_scrape_44 : decode cX5_scrape 44 = .ok (.i2l, 1) := by decide +kernel
theorem dX5_scrape_45 : decode cX5_scrape 45 = .ok (.invokestatic 171, 3) := by decide +kernel
theorem dX5_scrape_48 : decode cX5_scrape 48 = .ok (.isub, 1) := by decide +kernel
theorem dX5_scrape_49 : decode cX5_scrape 49 = .ok (.ireturn, 1) := by decide +kernel
set_option maxRecDepth 20000 in
theorem tkX5_scrape : ∀ q ∈ tbX5_scrape, xOk (Zm false yX5_scrape.name) RX5 cX5_scrape 2 (some .int) pT pY q :=
  fa_c (ok_p (xg_load _ _ _) (x_aload_n dX5_scrape_0 rfl)) <|
  fa_c (ok_p (xg_load _ _ _) (x_iload_n dX5_scrape_1 rfl)) <|
  fa_c (ok_c pT_130 pY_130 (x_callV (n := 1) (C := RX5) (T := TX5) (N := 34) rfl rfl kw843 kw845 kw36 kw63 kw846 (by decide +kernel) dX5_scrape_2)) <|
  fa_c (ok_p (xg_if _ _ _) (x_if_eq dX5_scrape_5 (by decide))) <|
  fa_c (ok_p (xg_st _ _) (x_iconst dX5_scrape_8 rfl)) <|
  fa_c (ok_r ⟨rfl, dX5_scrape_9⟩) <|
  fa_c (ok_p (xg_load _ _ _) (x_aload_n dX5_scrape_10 rfl)) <|
  fa_c (ok_p (xg_getf _ _ _) (x_getf (C := RX5) (T := TX5) (N := 34) rfl (by decide) inX5 kw685 dX5_scrape_11)) <|
  fa_c (ok_p (xg_load _ _ _) (x_iload_n dX5_scrape_14 rfl)) <|
  fa_c (ok_c pT_124 pY_124 (x_callS (n := 2) rfl kw832 kw833 kw63 kw834 (by decide +kernel) dX5_scrape_15)) <|
  fa_c (ok_p (xg_if _ _ _) (x_if_eq dX5_scrape_18 (by decide))) <|
  fa_c (ok_p (xg_st _ _) (x_bipush dX5_scrape_21 rfl)) <|
  fa_c (ok_r ⟨rfl, dX5_scrape_23⟩) <|
  fa_c (ok_p (xg_load _ _ _) (x_aload_n dX5_scrape_24 rfl)) <|
  fa_c (ok_p (xg_st _ _) (x_dup dX5_scrape_25)) <|
  fa_c (ok_p (xg_getf _ _ _) (x_getf (C := RX5) (T := TX5) (N := 34) rfl (by decide) inX5 kw685 dX5_scrape_26)) <|
  fa_c (ok_p (xg_st _ _) (x_iconst dX5_scrape_29 rfl)) <|
  fa_c (ok_p (xg_load _ _ _) (x_iload_n dX5_scrape_30 rfl)) <|
  fa_c (ok_p (xg_st _ _) (x_ishl dX5_scrape_31)) <|
  fa_c (ok_p (xg_st _ _) (x_ior dX5_scrape_32)) <|
  fa_c (ok_p (xg_putf _ _ _ _) (x_putfof (C := RX5) (T := TX5) (N := 34) tyX5 tyX5_ok nmX5 rfl (by decide) inX5 kw685 dX5_scrape_33 (tyX5_ok 7 (by decide)) (fun _ _ _ _ _ _ => Or.inl rfl))) <|
  fa_c (ok_p (xg_load _ _ _) (x_aload_n dX5_scrape_36 rfl)) <|
  fa_c (ok_p (xg_getf _ _ _) (x_getf (C := RX5) (T := TX5) (N := 34) rfl (by decide) inX5 kw681 dX5_scrape_37)) <|
  fa_c (ok_p (xg_load _ _ _) (x_aload_n dX5_scrape_40 rfl)) <|
  fa_c (ok_p (xg_getf _ _ _) (x_getf (C := RX5) (T := TX5) (N := 34) rfl (by decide) inX5 kw685 dX5_scrape_41)) <|
  fa_c (ok_p (xg_st _ _) (x_i2l dX5_scrape_44)) <|
  fa_c (ok_c pT_125 pY_125 (x_callS (n := 1) rfl kw872 kw873 kw63 kw874 (by decide +kernel) dX5_scrape_45)) <|
  fa_c (ok_p (xg_st _ _) (x_isub dX5_scrape_48)) <|
  fa_c (ok_r ⟨rfl, dX5_scrape_49⟩) <|
  fa_n
theorem dX5_grow_0 : decode cX5_grow 0 = .ok (.aload_n 0, 1) := by decide +kernel
theorem dX5_grow_1 : decode cX5_grow 1 = .ok (.iload_n 1, 1) := by decide +kernel
theorem dX5_grow_2 : decode cX5_grow 2 = .ok (.invokevirtual 160, 3) := by decide +kernel
theorem dX5_grow_5 : decode cX5_grow 5 = .ok (.ifCond .eq 5, 3) := by decide +kernel
theorem dX5_grow_8 : decode cX5_grow 8 = .ok (.iconst (-1), 1) := by decide +kernel
theorem dX5_grow_9 : decode cX5_grow 9 = .ok (.ireturn, 1) := by decide +kernel
theorem dX5_grow_10 : decode cX5_grow 10 = .ok (.aload_n 0, 1) := by decide +kernel
theorem dX5_grow_11 : decode cX5_grow 11 = .ok (.getfield 141, 3) := by decide +kernel
theorem dX5_grow_14 : decode cX5_grow 14 = .ok (.iload_n 1, 1) := by decide +kernel
theorem dX5_grow_15 : decode cX5_grow 15 = .ok (.invokestatic 154, 3) := by decide +kernel
theorem dX5_grow_18 : decode cX5_grow 18 = .ok (.ifCond .ne 6, 3) := by decide +kernel
theorem dX5_grow_21 : decode cX5_grow 21 = .ok (.bipush (-3), 2) := by decide +kernel
theorem dX5_grow_23 : decode cX5_grow 23 = .ok (.ireturn, 1) := by decide +kernel
theorem dX5_grow_24 : decode cX5_grow 24 = .ok (.aload_n 0, 1) := by decide +kernel
theorem dX5_grow_25 : decode cX5_grow 25 = .ok (.dup, 1) := by decide +kernel
theorem dX5_grow_26 : decode cX5_grow 26 = .ok (.getfield 141, 3) := by decide +kernel
theorem dX5_grow_29 : decode cX5_grow 29 = .ok (.iconst 1, 1) := by decide +kernel
theorem dX5_grow_30 : decode cX5_grow 30 = .ok (.iload_n 1, 1) := by decide +kernel
theorem dX5_grow_31 : decode cX5_grow 31 = .ok (.ishl, 1) := by decide +kernel
theorem dX5_grow_32 : decode cX5_grow 32 = .ok (.iconst (-1), 1) := by decide +kernel
theorem dX5_grow_33 : decode cX5_grow 33 = .ok (.ixor, 1) := by decide +kernel
theorem dX5_grow_34 : decode cX5_grow 34 = .ok (.iand, 1) := by decide +kernel
theorem dX5_grow_35 : decode cX5_grow 35 = .ok (.putfield 141, 3) := by decide +kernel
theorem dX5_grow_38 : decode cX5_grow 38 = .ok (.aload_n 0, 1) := by decide +kernel
theorem dX5_grow_39 : decode cX5_grow 39 = .ok (.dup, 1) := by decide +kernel
theorem dX5_grow_40 : decode cX5_grow 40 = .ok (.getfield 147, 3) := by decide +kernel
theorem dX5_grow_43 : decode cX5_grow 43 = .ok (.aload_n 0, 1) := by decide +kernel
theorem dX5_grow_44 : decode cX5_grow 44 = .ok (.invokevirtual 144, 3) := by decide +kernel
theorem dX5_grow_47 : decode cX5_grow 47 = .ok (.lor, 1) := by decide +kernel
theorem dX5_grow_48 : decode cX5_grow 48 = .ok (.putfield 147, 3) := by decide +kernel
theorem dX5_grow_51 : decode cX5_grow 51 = .ok (.aload_n 0, 1) := by decide +kernel
theorem dX5_grow_52 : decode cX5_grow 52 = .ok (.getfield 62, 3) := by decide +kernel
theorem dX5_grow_55 : decode cX5_grow 55 = .ok (.aload_n 0, 1) := by decide +kernel
theorem dX5_grow_56 : decode cX5_grow 56 = .ok (.getfield 141, 3) := by decide +kernel
theorem dX5_grow_59 : decode cX5_grow 59 = .ok (.i2l, 1) := by decide +kernel
theorem dX5_grow_60 : decode cX5_grow 60 = .ok (.invokestatic 171, 3) := by decide +kernel
theorem dX5_grow_63 : decode cX5_grow 63 = .ok (.isub, 1) := by decide +kernel
theorem dX5_grow_64 : decode cX5_grow 64 = .ok (.ireturn, 1) := by decide +kernel
set_option maxRecDepth 20000 in
theorem tkX5_grow : ∀ q ∈ tbX5_grow, xOk (Zm false yX5_grow.name) RX5 cX5_grow 2 (some .int) pT pY q :=
  fa_c (ok_p (xg_load _ _ _) (x_aload_n dX5_grow_0 rfl)) <|
  fa_c (ok_p (xg_load _ _ _) (x_iload_n dX5_grow_1 rfl)) <|
  fa_c (ok_c pT_130 pY_130 (x_callV (n := 1) (C := RX5) (T := TX5) (N := 34) rfl rfl kw843 kw845 kw36 kw63 kw846 (by decide +kernel) dX5_grow_2)) <|
  fa_c (ok_p (xg_if _ _ _) (x_if_eq dX5_grow_5 (by decide))) <|
  fa_c (ok_p (xg_st _ _) (x_iconst dX5_grow_8 rfl)) <|
  fa_c (ok_r ⟨rfl, dX5_grow_9⟩) <|
  fa_c (ok_p (xg_load _ _ _) (x_aload_n dX5_grow_10 rfl)) <|
  fa_c (ok_p (xg_getf _ _ _) (x_getf (C := RX5) (T := TX5) (N := 34) rfl (by decide) inX5 kw685 dX5_grow_11)) <|
  fa_c (ok_p (xg_load _ _ _) (x_iload_n dX5_grow_14 rfl)) <|
  fa_c (ok_c pT_124 pY_124 (x_callS (n := 2) rfl kw832 kw833 kw63 kw834 (by decide +kernel) dX5_grow_15)) <|
  fa_c (ok_p (xg_if _ _ _) (x_if_ne dX5_grow_18 (by decide))) <|
  fa_c (ok_p (xg_st _ _) (x_bipush dX5_grow_21 rfl)) <|
  fa_c (ok_r ⟨rfl, dX5_grow_23⟩) <|
  fa_c (ok_p (xg_load _ _ _) (x_aload_n dX5_grow_24 rfl)) <|
  fa_c (ok_p (xg_st _ _) (x_dup dX5_grow_25)) <|
  fa_c (ok_p (xg_getf _ _ _) (x_getf (C := RX5) (T := TX5) (N := 34) rfl (by decide) inX5 kw685 dX5_grow_26)) <|
  fa_c (ok_p (xg_st _ _) (x_iconst dX5_grow_29 rfl)) <|
  fa_c (ok_p (xg_load _ _ _) (x_iload_n dX5_grow_30 rfl)) <|
  fa_c (ok_p (xg_st _ _) (x_ishl dX5_grow_31)) <|
  fa_c (ok_p (xg_st _ _) (x_iconst dX5_grow_32 rfl)) <|
  fa_c (ok_p (xg_st _ _) (x_ixor dX5_grow_33)) <|
  fa_c (ok_p (xg_st _ _) (x_iand dX5_grow_34)) <|
  fa_c (ok_p (xg_putf _ _ _ _) (x_putfof (C := RX5) (T := TX5) (N := 34) tyX5 tyX5_ok nmX5 rfl (by decide) inX5 kw685 dX5_grow_35 (tyX5_ok 7 (by decide)) (fun _ _ _ _ _ _ => Or.inl rfl))) <|
  fa_c (ok_p (xg_load _ _ _) (x_aload_n dX5_grow_38 rfl)) <|
  fa_c (ok_p (xg_st _ _) (x_dup dX5_grow_39)) <|
  fa_c (ok_p (xg_getf _ _ _) (x_getf (C := RX5) (T := TX5) (N := 34) rfl (by decide) inX5 kw686 dX5_grow_40)) <|
  fa_c (ok_p (xg_load _ _ _) (x_aload_n dX5_grow_43 rfl)) <|
  fa_c (ok_c pT_141 pY_141 (x_callV (n := 0) (C := RX5) (T := TX5) (N := 34) rfl rfl kw828 kw830 kw34 kw63 kw831 (by decide +kernel) dX5_grow_44)) <|
  fa_c (ok_p (xg_st _ _) (x_lor dX5_grow_47)) <|
  fa_c (ok_p (xg_putf _ _ _ _) (x_putfof (C := RX5) (T := TX5) (N := 34) tyX5 tyX5_ok nmX5 rfl (by decide) inX5 kw686 dX5_grow_48 (tyX5_ok 8 (by decide)) (fun _ _ _ _ _ _ => Or.inl rfl))) <|
  fa_c (ok_p (xg_load _ _ _) (x_aload_n dX5_grow_51 rfl)) <|
  fa_c (ok_p (xg_getf _ _ _) (x_getf (C := RX5) (T := TX5) (N := 34) rfl (by decide) inX5 kw681 dX5_grow_52)) <|
  fa_c (ok_p (xg_load _ _ _) (x_aload_n dX5_grow_55 rfl)) <|
  fa_c (ok_p (xg_getf _ _ _) (x_getf (C := RX5) (T := TX5) (N := 34) rfl (by decide) inX5 kw685 dX5_grow_56)) <|
  fa_c (ok_p (xg_st _ _) (x_i2l dX5_grow_59)) <|
  fa_c (ok_c pT_125 pY_125 (x_callS (n := 1) rfl kw872 kw873 kw63 kw874 (by decide +kernel) dX5_grow_60)) <|
  fa_c (ok_p (xg_st _ _) (x_isub dX5_grow_63)) <|
  fa_c (ok_r ⟨rfl, dX5_grow_64⟩) <|
  fa_n
theorem dX5_seen_0 : decode cX5_seen 0 = .ok (.aload_n 0, 1) := by decide +kernel
theorem dX5_seen_1 : decode cX5_seen 1 = .ok (.getfield 62, 3) := by decide +kernel
theorem dX5_seen_4 : decode cX5_seen 4 = .ok (.ifCond .ne 9, 3) := by decide +kernel
theorem dX5_seen_7 : decode cX5_seen 7 = .ok (.invokestatic 58, 3) := by decide +kernel
theorem dX5_seen_10 : decode cX5_seen 10 = .ok (.goto 7, 3) := by decide +kernel
theorem dX5_seen_13 : decode cX5_seen 13 = .ok (.aload_n 0, 1) := by decide +kernel
theorem dX5_seen_14 : decode cX5_seen 14 = .ok (.getfield 147, 3) := by decide +kernel
theorem dX5_seen_17 : decode cX5_seen 17 = .ok (.lreturn, 1) := by decide +kernel
set_option maxRecDepth 20000 in
theorem tkX5_seen : ∀ q ∈ tbX5_seen, xOk (Zm false yX5_seen.name) RX5 cX5_seen 1 (some .long) pT pY q :=
  fa_c (ok_p (xg_load _ _ _) (x_aload_n dX5_seen_0 rfl)) <|
  fa_c (ok_p (xg_getf _ _ _) (x_getf (C := RX5) (T := TX5) (N := 34) rfl (by decide) inX5 kw681 dX5_seen_1)) <|
  fa_c (ok_p (xg_if _ _ _) (x_if_ne dX5_seen_4 (by decide))) <|
  fa_c (ok_c pT_123 pY_123 (x_callS (n := 0) rfl kw883 kw884 kw63 kw885 (by decide +kernel) dX5_seen_7)) <|
  fa_c (ok_p (xg_st _ _) (x_goto dX5_seen_10 (by decide))) <|
  fa_c (ok_p (xg_load _ _ _) (x_aload_n dX5_seen_13 rfl)) <|
  fa_c (ok_p (xg_getf _ _ _) (x_getf (C := RX5) (T := TX5) (N := 34) rfl (by decide) inX5 kw686 dX5_seen_14)) <|
  fa_c (ok_r ⟨rfl, dX5_seen_17⟩) <|
  fa_n
theorem dX5_isPlace_0 : decode cX5_isPlace 0 = .ok (.iload_n 1, 1) := by decide +kernel
theorem dX5_isPlace_1 : decode cX5_isPlace 1 = .ok (.i2l, 1) := by decide +kernel
theorem dX5_isPlace_2 : decode cX5_isPlace 2 = .ok (.lconst 0, 1) := by decide +kernel
theorem dX5_isPlace_3 : decode cX5_isPlace 3 = .ok (.aload_n 0, 1) := by decide +kernel
theorem dX5_isPlace_4 : decode cX5_isPlace 4 = .ok (.getfield 69, 3) := by decide +kernel
theorem dX5_isPlace_7 : decode cX5_isPlace 7 = .ok (.aload_n 0, 1) := by decide +kernel
theorem dX5_isPlace_8 : decode cX5_isPlace 8 = .ok (.getfield 62, 3) := by decide +kernel
theorem dX5_isPlace_11 : decode cX5_isPlace 11 = .ok (.isub, 1) := by decide +kernel
theorem dX5_isPlace_12 : decode cX5_isPlace 12 = .ok (.i2l, 1) := by decide +kernel
theorem dX5_isPlace_13 : decode cX5_isPlace 13 = .ok (.invokestatic 65, 3) := by decide +kernel
theorem dX5_isPlace_16 : decode cX5_isPlace 16 = .ok (.ifCond .eq 23, 3) := by decide +kernel
theorem dX5_isPlace_19 : decode cX5_isPlace 19 = .ok (.iload_n 2, 1) := by decide +kernel
theorem dX5_isPlace_20 : decode cX5_isPlace 20 = .ok (.i2l, 1) := by decide +kernel
theorem dX5_isPlace_21 : decode cX5_isPlace 21 = .ok (.lconst 0, 1) := by decide +kernel
theorem dX5_isPlace_22 : decode cX5_isPlace 22 = .ok (.aload_n 0, 1) := by decide +kernel
theorem dX5_isPlace_23 : decode cX5_isPlace 23 = .ok (.getfield 72, 3) := by decide +kernel
theorem dX5_isPlace_26 : decode cX5_isPlace 26 = .ok (.i2l, 1) := by decide +kernel
theorem dX5_isPlace_27 : decode cX5_isPlace 27 = .ok (.lconst 1, 1) := by decide +kernel
theorem dX5_isPlace_28 : decode cX5_isPlace 28 = .ok (.lsub, 1) := by decide +kernel
theorem dX5_isPlace_29 : decode cX5_isPlace 29 = .ok (.invokestatic 65, 3) := by decide +kernel
theorem dX5_isPlace_32 : decode cX5_isPlace 32 = .ok (.ifCond .eq 7, 3) := by decide +kernel
theorem dX5_isPlace_35 : decode cX5_isPlace 35 = .ok (.iconst 1, 1) := by decide +kernel
theorem dX5_isPlace_36 : decode cX5_isPlace 36 = .ok (.goto 4, 3) := by decide +kernel
theorem dX5_isPlace_39 : decode cX5_isPlace 39 = .ok (.iconst 0, 1) := by decide +kernel
theorem dX5_isPlace_40 : decode cX5_isPlace 40 = .ok (.ireturn, 1) := by decide +kernel
set_option maxRecDepth 20000 in
theorem tkX5_isPlace : ∀ q ∈ tbX5_isPlace, xOk (Zm false yX5_isPlace.name) RX5 cX5_isPlace 3 (some .boolean) pT pY q :=
  fa_c (ok_p (xg_load _ _ _) (x_iload_n dX5_isPlace_0 rfl)) <|
  fa_c (ok_p (xg_st _ _) (x_i2l dX5_isPlace_1)) <|
  fa_c (ok_p (xg_st _ _) (x_lconst dX5_isPlace_2 rfl)) <|
  fa_c (ok_p (xg_load _ _ _) (x_aload_n dX5_isPlace_3 rfl)) <|
  fa_c (ok_p (xg_getf _ _ _) (x_getf (C := RX5) (T := TX5) (N := 34) rfl (by decide) inX5 kw679 dX5_isPlace_4)) <|
  fa_c (ok_p (xg_load _ _ _) (x_aload_n dX5_isPlace_7 rfl)) <|
  fa_c (ok_p (xg_getf _ _ _) (x_getf (C := RX5) (T := TX5) (N := 34) rfl (by decide) inX5 kw681 dX5_isPlace_8)) <|
  fa_c (ok_p (xg_st _ _) (x_isub dX5_isPlace_11)) <|
  fa_c (ok_p (xg_st _ _) (x_i2l dX5_isPlace_12)) <|
  fa_c (ok_c pT_122 pY_122 (x_callS (n := 3) rfl kw789 kw790 kw63 kw791 (by decide +kernel) dX5_isPlace_13)) <|
  fa_c (ok_p (xg_if _ _ _) (x_if_eq dX5_isPlace_16 (by decide))) <|
  fa_c (ok_p (xg_load _ _ _) (x_iload_n dX5_isPlace_19 rfl)) <|
  fa_c (ok_p (xg_st _ _) (x_i2l dX5_isPlace_20)) <|
  fa_c (ok_p (xg_st _ _) (x_lconst dX5_isPlace_21 rfl)) <|
  fa_c (ok_p (xg_load _ _ _) (x_aload_n dX5_isPlace_22 rfl)) <|
  fa_c (ok_p (xg_getf _ _ _) (x_getf (C := RX5) (T := TX5) (N := 34) rfl (by decide) inX5 kw680 dX5_isPlace_23)) <|
  fa_c (ok_p (xg_st _ _) (x_i2l dX5_isPlace_26)) <|
  fa_c (ok_p (xg_st _ _) (x_lconst dX5_isPlace_27 rfl)) <|
  fa_c (ok_p (xg_st _ _) (x_lsub dX5_isPlace_28)) <|
  fa_c (ok_c pT_122 pY_122 (x_callS (n := 3) rfl kw789 kw790 kw63 kw791 (by decide +kernel) dX5_isPlace_29)) <|
  fa_c (ok_p (xg_if _ _ _) (x_if_eq dX5_isPlace_32 (by decide))) <|
  fa_c (ok_p (xg_st _ _) (x_iconst dX5_isPlace_35 rfl)) <|
  fa_c (ok_p (xg_st _ _) (x_goto dX5_isPlace_36 (by decide))) <|
  fa_c (ok_p (xg_st _ _) (x_iconst dX5_isPlace_39 rfl)) <|
  fa_c (ok_r ⟨rfl, dX5_isPlace_40⟩) <|
  fa_n
theorem dX5_columnBy_0 : decode cX5_columnBy 0 = .ok (.iload_n 0, 1) := by decide +kernel
theorem dX5_columnBy_1 : decode cX5_columnBy 1 = .ok (.iconst 1, 1) := by decide +kernel
theorem dX5_columnBy_2 : decode cX5_columnBy 2 = .ok (.if_icmp .ne 7, 3) := by decide +kernel
theorem dX5_columnBy_5 : decode cX5_columnBy 5 = .ok (.iconst 1, 1) := by decide +kernel
theorem dX5_columnBy_6 : decode cX5_columnBy 6 = .ok (.goto 13, 3) := by decide +kernel
theorem dX5_columnBy_9 : decode cX5_columnBy 9 = .ok (.iload_n 0, 1) := by decide +kernel
theorem dX5_columnBy_10 : decode cX5_columnBy 10 = .ok (.iconst 3, 1) := by decide +kernel
theorem dX5_columnBy_11 : decode cX5_columnBy 11 = .ok (.if_icmp .ne 7, 3) := by decide +kernel
theorem dX5_columnBy_14 : decode cX5_columnBy 14 = .ok (.iconst (-1), 1) := by decide +kernel
theorem dX5_columnBy_15 : decode cX5_columnBy 15 = .ok (.goto 4, 3) := by decide +kernel
theorem dX5_columnBy_18 : decode cX5_columnBy 18 = .ok (.iconst 0, 1) := by decide +kernel
theorem dX5_columnBy_19 : decode cX5_columnBy 19 = .ok (.ireturn, 1) := by decide +kernel
set_option maxRecDepth 20000 in
theorem tkX5_columnBy : ∀ q ∈ tbX5_columnBy, xOk (Zm false yX5_columnBy.name) RX5 cX5_columnBy 1 (some .int) pT pY q :=
  fa_c (ok_p (xg_load _ _ _) (x_iload_n dX5_columnBy_0 rfl)) <|
  fa_c (ok_p (xg_st _ _) (x_iconst dX5_columnBy_1 rfl)) <|
  fa_c (ok_p (xg_icmp _ _ _) (x_icmp_ne dX5_columnBy_2 (by decide))) <|
  fa_c (ok_p (xg_st _ _) (x_iconst dX5_columnBy_5 rfl)) <|
  fa_c (ok_p (xg_st _ _) (x_goto dX5_columnBy_6 (by decide))) <|
  fa_c (ok_p (xg_load _ _ _) (x_iload_n dX5_columnBy_9 rfl)) <|
  fa_c (ok_p (xg_st _ _) (x_iconst dX5_columnBy_10 rfl)) <|
  fa_c (ok_p (xg_icmp _ _ _) (x_icmp_ne dX5_columnBy_11 (by decide))) <|
  fa_c (ok_p (xg_st _ _) (x_iconst dX5_columnBy_14 rfl)) <|
  fa_c (ok_p (xg_st _ _) (x_goto dX5_columnBy_15 (by decide))) <|
  fa_c (ok_p (xg_st _ _) (x_iconst dX5_columnBy_18 rfl)) <|
  fa_c (ok_r ⟨rfl, dX5_columnBy_19⟩) <|
  fa_n
theorem dX5_rowBy_0 : decode cX5_rowBy 0 = .ok (.iload_n 0, 1) := by decide +kernel
theorem dX5_rowBy_1 : decode cX5_rowBy 1 = .ok (.ifCond .ne 7, 3) := by decide +kernel
theorem dX5_rowBy_4 : decode cX5_rowBy 4 = .ok (.iconst (-1), 1) := by decide +kernel
theorem dX5_rowBy_5 : decode cX5_rowBy 5 = .ok (.goto 13, 3) := by decide +kernel
theorem dX5_rowBy_8 : decode cX5_rowBy 8 = .ok (.iload_n 0, 1) := by decide +kernel
theorem dX5_rowBy_9 : decode cX5_rowBy 9 = .ok (.iconst 2, 1) := by decide +kernel
theorem dX5_rowBy_10 : decode cX5_rowBy 10 = .ok (.if_icmp .ne 7, 3) := by decide +kernel
theorem dX5_rowBy_13 : decode cX5_rowBy 13 = .ok (.iconst 1, 1) := by decide +kernel
theorem dX5_rowBy_14 : decode cX5_rowBy 14 = .ok (.goto 4, 3) := by decide +kernel
theorem dX5_rowBy_17 : decode cX5_rowBy 17 = .ok (.iconst 0, 1) := by decide +kernel
theorem dX5_rowBy_18 : decode cX5_rowBy 18 = .ok (.ireturn, 1) := by decide +kernel
set_option maxRecDepth 20000 in
theorem tkX5_rowBy : ∀ q ∈ tbX5_rowBy, xOk (Zm false yX5_rowBy.name) RX5 cX5_rowBy 1 (some .int) pT pY q :=
  fa_c (ok_p (xg_load _ _ _) (x_iload_n dX5_rowBy_0 rfl)) <|
  fa_c (ok_p (xg_if _ _ _) (x_if_ne dX5_rowBy_1 (by decide))) <|
  fa_c (ok_p (xg_st _ _) (x_iconst dX5_rowBy_4 rfl)) <|
  fa_c (ok_p (xg_st _ _) (x_goto dX5_rowBy_5 (by decide))) <|
  fa_c (ok_p (xg_load _ _ _) (x_iload_n dX5_rowBy_8 rfl)) <|
  fa_c (ok_p (xg_st _ _) (x_iconst dX5_rowBy_9 rfl)) <|
  fa_c (ok_p (xg_icmp _ _ _) (x_icmp_ne dX5_rowBy_10 (by decide))) <|
  fa_c (ok_p (xg_st _ _) (x_iconst dX5_rowBy_13 rfl)) <|
  fa_c (ok_p (xg_st _ _) (x_goto dX5_rowBy_14 (by decide))) <|
  fa_c (ok_p (xg_st _ _) (x_iconst dX5_rowBy_17 rfl)) <|
  fa_c (ok_r ⟨rfl, dX5_rowBy_18⟩) <|
  fa_n
theorem dX5_steps_0 : decode cX5_steps 0 = .ok (.aload_n 0, 1) := by decide +kernel
theorem dX5_steps_1 : decode cX5_steps 1 = .ok (.getfield 132, 3) := by decide +kernel
theorem dX5_steps_4 : decode cX5_steps 4 = .ok (.iload_n 1, 1) := by decide +kernel
theorem dX5_steps_5 : decode cX5_steps 5 = .ok (.invokestatic 175, 3) := by decide +kernel
theorem dX5_steps_8 : decode cX5_steps 8 = .ok (.iadd, 1) := by decide +kernel
theorem dX5_steps_9 : decode cX5_steps 9 = .ok (.istore_n 2, 1) := by decide +kernel
theorem dX5_steps_10 : decode cX5_steps 10 = .ok (.aload_n 0, 1) := by decide +kernel
theorem dX5_steps_11 : decode cX5_steps 11 = .ok (.getfield 135, 3) := by decide +kernel
theorem dX5_steps_14 : decode cX5_steps 14 = .ok (.iload_n 1, 1) := by decide +kernel
theorem dX5_steps_15 : decode cX5_steps 15 = .ok (.invokestatic 178, 3) := by decide +kernel
theorem dX5_steps_18 : decode cX5_steps 18 = .ok (.iadd, 1) := by decide +kernel
theorem dX5_steps_19 : decode cX5_steps 19 = .ok (.istore_n 3, 1) := by decide +kernel
theorem dX5_steps_20 : decode cX5_steps 20 = .ok (.aload_n 0, 1) := by decide +kernel
theorem dX5_steps_21 : decode cX5_steps 21 = .ok (.iload_n 2, 1) := by decide +kernel
theorem dX5_steps_22 : decode cX5_steps 22 = .ok (.iload_n 3, 1) := by decide +kernel
theorem dX5_steps_23 : decode cX5_steps 23 = .ok (.invokevirtual 181, 3) := by decide +kernel
theorem dX5_steps_26 : decode cX5_steps 26 = .ok (.ifCond .ne 5, 3) := by decide +kernel
theorem dX5_steps_29 : decode cX5_steps 29 = .ok (.iconst 0, 1) := by decide +kernel
theorem dX5_steps_30 : decode cX5_steps 30 = .ok (.ireturn, 1) := by decide +kernel
theorem dX5_steps_31 : decode cX5_steps 31 = .ok (.aload_n 0, 1) := by decide +kernel
theorem dX5_steps_32 : decode cX5_steps 32 = .ok (.iload_n 2, 1) := by decide +kernel
theorem dX5_steps_33 : decode cX5_steps 33 = .ok (.putfield 132, 3) := by decide +kernel
theorem dX5_steps_36 : decode cX5_steps 36 = .ok (.aload_n 0, 1) := by decide +kernel
theorem dX5_steps_37 : decode cX5_steps 37 = .ok (.iload_n 3, 1) := by decide +kernel
theorem dX5_steps_38 : decode cX5_steps 38 = .ok (.putfield 135, 3) := by decide +kernel
theorem dX5_steps_41 : decode cX5_steps 41 = .ok (.aload_n 0, 1) := by decide +kernel
theorem dX5_steps_42 : decode cX5_steps 42 = .ok (.dup, 1) := by decide +kernel
theorem dX5_steps_43 : decode cX5_steps 43 = .ok (.getfield 147, 3) := by decide +kernel
theorem dX5_steps_46 : decode cX5_steps 46 = .ok (.aload_n 0, 1) := by decide +kernel
theorem dX5_steps_47 : decode cX5_steps 47 = .ok (.invokevirtual 144, 3) := by decide +kernel
theorem dX5_steps_50 : decode cX5_steps 50 = .ok (.lor, 1) := by decide +kernel
theorem dX5_steps_51 : decode cX5_steps 51 = .ok (.putfield 147, 3) := by decide +kernel
theorem dX5_steps_54 : decode cX5_steps 54 = .ok (.iconst 1, 1) := by decide +kernel
theorem dX5_steps_55 : decode cX5_steps 55 = .ok (.ireturn, 1) := by decide +kernel
set_option maxRecDepth 20000 in
theorem tkX5_steps : ∀ q ∈ tbX5_steps, xOk (Zm false yX5_steps.name) RX5 cX5_steps 4 (some .boolean) pT pY q :=
  fa_c (ok_p (xg_load _ _ _) (x_aload_n dX5_steps_0 rfl)) <|
  fa_c (ok_p (xg_getf _ _ _) (x_getf (C := RX5) (T := TX5) (N := 34) rfl (by decide) inX5 kw682 dX5_steps_1)) <|
  fa_c (ok_p (xg_load _ _ _) (x_iload_n dX5_steps_4 rfl)) <|
  fa_c (ok_c pT_150 pY_150 (x_callS (n := 1) rfl kw895 kw896 kw63 kw897 (by decide +kernel) dX5_steps_5)) <|
  fa_c (ok_p (xg_st _ _) (x_iadd dX5_steps_8)) <|
  fa_c (ok_p (xg_store _ _ _) (x_istore_n dX5_steps_9 rfl)) <|
  fa_c (ok_p (xg_load _ _ _) (x_aload_n dX5_steps_10 rfl)) <|
  fa_c (ok_p (xg_getf _ _ _) (x_getf (C := RX5) (T := TX5) (N := 34) rfl (by decide) inX5 kw683 dX5_steps_11)) <|
  fa_c (ok_p (xg_load _ _ _) (x_iload_n dX5_steps_14 rfl)) <|
  fa_c (ok_c pT_151 pY_151 (x_callS (n := 1) rfl kw898 kw899 kw63 kw900 (by decide +kernel) dX5_steps_15)) <|
  fa_c (ok_p (xg_st _ _) (x_iadd dX5_steps_18)) <|
  fa_c (ok_p (xg_store _ _ _) (x_istore_n dX5_steps_19 rfl)) <|
  fa_c (ok_p (xg_load _ _ _) (x_aload_n dX5_steps_20 rfl)) <|
  fa_c (ok_p (xg_load _ _ _) (x_iload_n dX5_steps_21 rfl)) <|
  fa_c (ok_p (xg_load _ _ _) (x_iload_n dX5_steps_22 rfl)) <|
  fa_c (ok_c pT_149 pY_149 (x_callV (n := 2) (C := RX5) (T := TX5) (N := 34) rfl rfl kw901 kw903 kw40 kw63 kw904 (by decide +kernel) dX5_steps_23)) <|
  fa_c (ok_p (xg_if _ _ _) (x_if_ne dX5_steps_26 (by decide))) <|
  fa_c (ok_p (xg_st _ _) (x_iconst dX5_steps_29 rfl)) <|
  fa_c (ok_r ⟨rfl, dX5_steps_30⟩) <|
  fa_c (ok_p (xg_load _ _ _) (x_aload_n dX5_steps_31 rfl)) <|
  fa_c (ok_p (xg_load _ _ _) (x_iload_n dX5_steps_32 rfl)) <|
  fa_c (ok_p (xg_putf _ _ _ _) (x_putfof (C := RX5) (T := TX5) (N := 34) tyX5 tyX5_ok nmX5 rfl (by decide) inX5 kw682 dX5_steps_33 (tyX5_ok 4 (by decide)) (fun _ _ _ _ _ _ => Or.inl rfl))) <|
  fa_c (ok_p (xg_load _ _ _) (x_aload_n dX5_steps_36 rfl)) <|
  fa_c (ok_p (xg_load _ _ _) (x_iload_n dX5_steps_37 rfl)) <|
  fa_c (ok_p (xg_putf _ _ _ _) (x_putfof (C := RX5) (T := TX5) (N := 34) tyX5 tyX5_ok nmX5 rfl (by decide) inX5 kw683 dX5_steps_38 (tyX5_ok 5 (by decide)) (fun _ _ _ _ _ _ => Or.inl rfl))) <|
  fa_c (ok_p (xg_load _ _ _) (x_aload_n dX5_steps_41 rfl)) <|
  fa_c (ok_p (xg_st _ _) (x_dup dX5_steps_42)) <|
  fa_c (ok_p (xg_getf _ _ _) (x_getf (C := RX5) (T := TX5) (N := 34) rfl (by decide) inX5 kw686 dX5_steps_43)) <|
  fa_c (ok_p (xg_load _ _ _) (x_aload_n dX5_steps_46 rfl)) <|
  fa_c (ok_c pT_141 pY_141 (x_callV (n := 0) (C := RX5) (T := TX5) (N := 34) rfl rfl kw828 kw830 kw34 kw63 kw831 (by decide +kernel) dX5_steps_47)) <|
  fa_c (ok_p (xg_st _ _) (x_lor dX5_steps_50)) <|
  fa_c (ok_p (xg_putf _ _ _ _) (x_putfof (C := RX5) (T := TX5) (N := 34) tyX5 tyX5_ok nmX5 rfl (by decide) inX5 kw686 dX5_steps_51 (tyX5_ok 8 (by decide)) (fun _ _ _ _ _ _ => Or.inl rfl))) <|
  fa_c (ok_p (xg_st _ _) (x_iconst dX5_steps_54 rfl)) <|
  fa_c (ok_r ⟨rfl, dX5_steps_55⟩) <|
  fa_n
theorem dX5_step_0 : decode cX5_step 0 = .ok (.iload_n 1, 1) := by decide +kernel
theorem dX5_step_1 : decode cX5_step 1 = .ok (.i2l, 1) := by decide +kernel
theorem dX5_step_2 : decode cX5_step 2 = .ok (.lconst 0, 1) := by decide +kernel
theorem dX5_step_3 : decode cX5_step 3 = .ok (.ldc2_w 184, 3) := by decide +kernel
theorem dX5_step_6 : decode cX5_step 6 = .ok (.invokestatic 65, 3) := by decide +kernel
theorem dX5_step_9 : decode cX5_step 9 = .ok (.ifCond .ne 6, 3) := by decide +kernel
theorem dX5_step_12 : decode cX5_step 12 = .ok (.bipush (-2), 2) := by decide +kernel
theorem dX5_step_14 : decode cX5_step 14 = .ok (.ireturn, 1) := by decide +kernel
theorem dX5_step_15 : decode cX5_step 15 = .ok (.aload_n 0, 1) := by decide +kernel
theorem dX5_step_16 : decode cX5_step 16 = .ok (.getfield 147, 3) := by decide +kernel
theorem dX5_step_19 : decode cX5_step 19 = .ok (.invokestatic 171, 3) := by decide +kernel
theorem dX5_step_22 : decode cX5_step 22 = .ok (.istore_n 2, 1) := by decide +kernel
theorem dX5_step_23 : decode cX5_step 23 = .ok (.aload_n 0, 1) := by decide +kernel
theorem dX5_step_24 : decode cX5_step 24 = .ok (.getfield 62, 3) := by decide +kernel
theorem dX5_step_27 : decode cX5_step 27 = .ok (.ifCond .eq 11, 3) := by decide +kernel
theorem dX5_step_30 : decode cX5_step 30 = .ok (.aload_n 0, 1) := by decide +kernel
theorem dX5_step_31 : decode cX5_step 31 = .ok (.iload_n 1, 1) := by decide +kernel
theorem dX5_step_32 : decode cX5_step 32 = .ok (.invokevirtual 186, 3) := by decide +kernel
theorem dX5_step_35 : decode cX5_step 35 = .ok (.ifCond .ne 6, 3) := by decide +kernel
theorem dX5_step_38 : decode cX5_step 38 = .ok (.bipush (-3), 2) := by decide +kernel
theorem dX5_step_40 : decode cX5_step 40 = .ok (.ireturn, 1) := by decide +kernel
theorem dX5_step_41 : decode cX5_step 41 = .ok (.aload_n 0, 1) := by decide +kernel
theorem dX5_step_42 : decode cX5_step 42 = .ok (.dup, 1) := by decide +kernel
theorem dX5_step_43 : decode cX5_step 43 = .ok (.getfield 138, 3) := by decide +kernel
theorem dX5_step_46 : decode cX5_step 46 = .ok (.iconst 1, 1) := by decide +kernel
theorem dX5_step_47 : decode cX5_step 47 = .ok (.iadd, 1) := by decide +kernel
theorem dX5_step_48 : decode cX5_step 48 = .ok (.putfield 138, 3) := by decide +kernel
theorem dX5_step_51 : decode cX5_step 51 = .ok (.aload_n 0, 1) := by decide +kernel
theorem dX5_step_52 : decode cX5_step 52 = .ok (.getfield 147, 3) := by decide +kernel
theorem dX5_step_55 : decode cX5_step 55 = .ok (.invokestatic 171, 3) := by decide +kernel
theorem dX5_step_58 : decode cX5_step 58 = .ok (.iload_n 2, 1) := by decide +kernel
theorem dX5_step_59 : decode cX5_step 59 = .ok (.isub, 1) := by decide +kernel
theorem dX5_step_60 : decode cX5_step 60 = .ok (.ireturn, 1) := by decide +kernel
set_option maxRecDepth 20000 in
theorem tkX5_step : ∀ q ∈ tbX5_step, xOk (Zm false yX5_step.name) RX5 cX5_step 3 (some .int) pT pY q :=
  fa_c (ok_p (xg_load _ _ _) (x_iload_n dX5_step_0 rfl)) <|
  fa_c (ok_p (xg_st _ _) (x_i2l dX5_step_1)) <|
  fa_c (ok_p (xg_st _ _) (x_lconst dX5_step_2 rfl)) <|
  fa_c (ok_p (xg_st _ _) (x_ldc2 dX5_step_3 kw788)) <|
  fa_c (ok_c pT_122 pY_122 (x_callS (n := 3) rfl kw789 kw790 kw63 kw791 (by decide +kernel) dX5_step_6)) <|
  fa_c (ok_p (xg_if _ _ _) (x_if_ne dX5_step_9 (by decide))) <|
  fa_c (ok_p (xg_st _ _) (x_bipush dX5_step_12 rfl)) <|
  fa_c (ok_r ⟨rfl, dX5_step_14⟩) <|
  fa_c (ok_p (xg_load _ _ _) (x_aload_n dX5_step_15 rfl)) <|
  fa_c (ok_p (xg_getf _ _ _) (x_getf (C := RX5) (T := TX5) (N := 34) rfl (by decide) inX5 kw686 dX5_step_16)) <|
  fa_c (ok_c pT_125 pY_125 (x_callS (n := 1) rfl kw872 kw873 kw63 kw874 (by decide +kernel) dX5_step_19)) <|
  fa_c (ok_p (xg_store _ _ _) (x_istore_n dX5_step_22 rfl)) <|
  fa_c (ok_p (xg_load _ _ _) (x_aload_n dX5_step_23 rfl)) <|
  fa_c (ok_p (xg_getf _ _ _) (x_getf (C := RX5) (T := TX5) (N := 34) rfl (by decide) inX5 kw681 dX5_step_24)) <|
  fa_c (ok_p (xg_if _ _ _) (x_if_eq dX5_step_27 (by decide))) <|
  fa_c (ok_p (xg_load _ _ _) (x_aload_n dX5_step_30 rfl)) <|
  fa_c (ok_p (xg_load _ _ _) (x_iload_n dX5_step_31 rfl)) <|
  fa_c (ok_c pT_152 pY_152 (x_callV (n := 1) (C := RX5) (T := TX5) (N := 34) rfl rfl kw891 kw893 kw39 kw63 kw894 (by decide +kernel) dX5_step_32)) <|
  fa_c (ok_p (xg_if _ _ _) (x_if_ne dX5_step_35 (by decide))) <|
  fa_c (ok_p (xg_st _ _) (x_bipush dX5_step_38 rfl)) <|
  fa_c (ok_r ⟨rfl, dX5_step_40⟩) <|
  fa_c (ok_p (xg_load _ _ _) (x_aload_n dX5_step_41 rfl)) <|
  fa_c (ok_p (xg_st _ _) (x_dup dX5_step_42)) <|
  fa_c (ok_p (xg_getf _ _ _) (x_getf (C := RX5) (T := TX5) (N := 34) rfl (by decide) inX5 kw684 dX5_step_43)) <|
  fa_c (ok_p (xg_st _ _) (x_iconst dX5_step_46 rfl)) <|
  fa_c (ok_p (xg_st _ _) (x_iadd dX5_step_47)) <|
  fa_c (ok_p (xg_putf _ _ _ _) (x_putfof (C := RX5) (T := TX5) (N := 34) tyX5 tyX5_ok nmX5 rfl (by decide) inX5 kw684 dX5_step_48 (tyX5_ok 6 (by decide)) (fun _ _ _ _ _ _ => Or.inl rfl))) <|
  fa_c (ok_p (xg_load _ _ _) (x_aload_n dX5_step_51 rfl)) <|
  fa_c (ok_p (xg_getf _ _ _) (x_getf (C := RX5) (T := TX5) (N := 34) rfl (by decide) inX5 kw686 dX5_step_52)) <|
  fa_c (ok_c pT_125 pY_125 (x_callS (n := 1) rfl kw872 kw873 kw63 kw874 (by decide +kernel) dX5_step_55)) <|
  fa_c (ok_p (xg_load _ _ _) (x_iload_n dX5_step_58 rfl)) <|
  fa_c (ok_p (xg_st _ _) (x_isub dX5_step_59)) <|
  fa_c (ok_r ⟨rfl, dX5_step_60⟩) <|
  fa_n
theorem dX5_keepAll_0 : decode cX5_keepAll 0 = .ok (.aload_n 0, 1) := by decide +kernel
theorem dX5_keepAll_1 : decode cX5_keepAll 1 = .ok (.aload_n 0, 1) := by decide +kernel
theorem dX5_keepAll_2 : decode cX5_keepAll 2 = .ok (.getfield 132, 3) := by decide +kernel
theorem dX5_keepAll_5 : decode cX5_keepAll 5 = .ok (.putfield 189, 3) := by decide +kernel
theorem dX5_keepAll_8 : decode cX5_keepAll 8 = .ok (.aload_n 0, 1) := by decide +kernel
theorem dX5_keepAll_9 : decode cX5_keepAll 9 = .ok (.aload_n 0, 1) := by decide +kernel
theorem dX5_keepAll_10 : decode cX5_keepAll 10 = .ok (.getfield 135, 3) := by decide +kernel
theorem dX5_keepAll_13 : decode cX5_keepAll 13 = .ok (.putfield 192, 3) := by decide +kernel
theorem dX5_keepAll_16 : decode cX5_keepAll 16 = .ok (.aload_n 0, 1) := by decide +kernel
theorem dX5_keepAll_17 : decode cX5_keepAll 17 = .ok (.aload_n 0, 1) := by decide +kernel
theorem dX5_keepAll_18 : decode cX5_keepAll 18 = .ok (.getfield 147, 3) := by decide +kernel
theorem dX5_keepAll_21 : decode cX5_keepAll 21 = .ok (.putfield 195, 3) := by decide +kernel
theorem dX5_keepAll_24 : decode cX5_keepAll 24 = .ok (.return_, 1) := by decide +kernel
set_option maxRecDepth 20000 in
theorem tkX5_keepAll : ∀ q ∈ tbX5_keepAll, xOk (Zm false yX5_keepAll.name) RX5 cX5_keepAll 1 (none) pT pY q :=
  fa_c (ok_p (xg_load _ _ _) (x_aload_n dX5_keepAll_0 rfl)) <|
  fa_c (ok_p (xg_load _ _ _) (x_aload_n dX5_keepAll_1 rfl)) <|
  fa_c (ok_p (xg_getf _ _ _) (x_getf (C := RX5) (T := TX5) (N := 34) rfl (by decide) inX5 kw682 dX5_keepAll_2)) <|
  fa_c (ok_p (xg_putf _ _ _ _) (x_putfof (C := RX5) (T := TX5) (N := 34) tyX5 tyX5_ok nmX5 rfl (by decide) inX5 kw699 dX5_keepAll_5 (tyX5_ok 21 (by decide)) (fun _ _ _ _ _ _ => Or.inl rfl))) <|
  fa_c (ok_p (xg_load _ _ _) (x_aload_n dX5_keepAll_8 rfl)) <|
  fa_c (ok_p (xg_load _ _ _) (x_aload_n dX5_keepAll_9 rfl)) <|
  fa_c (ok_p (xg_getf _ _ _) (x_getf (C := RX5) (T := TX5) (N := 34) rfl (by decide) inX5 kw683 dX5_keepAll_10)) <|
  fa_c (ok_p (xg_putf _ _ _ _) (x_putfof (C := RX5) (T := TX5) (N := 34) tyX5 tyX5_ok nmX5 rfl (by decide) inX5 kw700 dX5_keepAll_13 (tyX5_ok 22 (by decide)) (fun _ _ _ _ _ _ => Or.inl rfl))) <|
  fa_c (ok_p (xg_load _ _ _) (x_aload_n dX5_keepAll_16 rfl)) <|
  fa_c (ok_p (xg_load _ _ _) (x_aload_n dX5_keepAll_17 rfl)) <|
  fa_c (ok_p (xg_getf _ _ _) (x_getf (C := RX5) (T := TX5) (N := 34) rfl (by decide) inX5 kw686 dX5_keepAll_18)) <|
  fa_c (ok_p (xg_putf _ _ _ _) (x_putfof (C := RX5) (T := TX5) (N := 34) tyX5 tyX5_ok nmX5 rfl (by decide) inX5 kw701 dX5_keepAll_21 (tyX5_ok 23 (by decide)) (fun _ _ _ _ _ _ => Or.inl rfl))) <|
  fa_c (ok_r ⟨rfl, dX5_keepAll_24⟩) <|
  fa_n
theorem dX5_bringBack_0 : decode cX5_bringBack 0 = .ok (.aload_n 0, 1) := by decide +kernel
theorem dX5_bringBack_1 : decode cX5_bringBack 1 = .ok (.aload_n 0, 1) := by decide +kernel
theorem dX5_bringBack_2 : decode cX5_bringBack 2 = .ok (.getfield 189, 3) := by decide +kernel
theorem dX5_bringBack_5 : decode cX5_bringBack 5 = .ok (.putfield 132, 3) := by decide +kernel
theorem dX5_bringBack_8 : decode cX5_bringBack 8 = .ok (.aload_n 0, 1) := by decide +kernel
theorem dX5_bringBack_9 : decode cX5_bringBack 9 = .ok (.aload_n 0, 1) := by decide +kernel
theorem dX5_bringBack_10 : decode cX5_bringBack 10 = .ok (.getfield 192, 3) := by decide +kernel
theorem dX5_bringBack_13 : decode cX5_bringBack 13 = .ok (.putfield 135, 3) := by decide +kernel
theorem dX5_bringBack_16 : decode cX5_bringBack 16 = .ok (.aload_n 0, 1) := by decide +kernel
theorem dX5_bringBack_17 : decode cX5_bringBack 17 = .ok (.aload_n 0, 1) := by decide +kernel
theorem dX5_bringBack_18 : decode cX5_bringBack 18 = .ok (.getfield 195, 3) := by decide +kernel
theorem dX5_bringBack_21 : decode cX5_bringBack 21 = .ok (.putfield 147, 3) := by decide +kernel
theorem dX5_bringBack_24 : decode cX5_bringBack 24 = .ok (.return_, 1) := by decide +kernel
set_option maxRecDepth 20000 in
theorem tkX5_bringBack : ∀ q ∈ tbX5_bringBack, xOk (Zm false yX5_bringBack.name) RX5 cX5_bringBack 1 (none) pT pY q :=
  fa_c (ok_p (xg_load _ _ _) (x_aload_n dX5_bringBack_0 rfl)) <|
  fa_c (ok_p (xg_load _ _ _) (x_aload_n dX5_bringBack_1 rfl)) <|
  fa_c (ok_p (xg_getf _ _ _) (x_getf (C := RX5) (T := TX5) (N := 34) rfl (by decide) inX5 kw699 dX5_bringBack_2)) <|
  fa_c (ok_p (xg_putf _ _ _ _) (x_putfof (C := RX5) (T := TX5) (N := 34) tyX5 tyX5_ok nmX5 rfl (by decide) inX5 kw682 dX5_bringBack_5 (tyX5_ok 4 (by decide)) (fun _ _ _ _ _ _ => Or.inl rfl))) <|
  fa_c (ok_p (xg_load _ _ _) (x_aload_n dX5_bringBack_8 rfl)) <|
  fa_c (ok_p (xg_load _ _ _) (x_aload_n dX5_bringBack_9 rfl)) <|
  fa_c (ok_p (xg_getf _ _ _) (x_getf (C := RX5) (T := TX5) (N := 34) rfl (by decide) inX5 kw700 dX5_bringBack_10)) <|
  fa_c (ok_p (xg_putf _ _ _ _) (x_putfof (C := RX5) (T := TX5) (N := 34) tyX5 tyX5_ok nmX5 rfl (by decide) inX5 kw683 dX5_bringBack_13 (tyX5_ok 5 (by decide)) (fun _ _ _ _ _ _ => Or.inl rfl))) <|
  fa_c (ok_p (xg_load _ _ _) (x_aload_n dX5_bringBack_16 rfl)) <|
  fa_c (ok_p (xg_load _ _ _) (x_aload_n dX5_bringBack_17 rfl)) <|
  fa_c (ok_p (xg_getf _ _ _) (x_getf (C := RX5) (T := TX5) (N := 34) rfl (by decide) inX5 kw701 dX5_bringBack_18)) <|
  fa_c (ok_p (xg_putf _ _ _ _) (x_putfof (C := RX5) (T := TX5) (N := 34) tyX5 tyX5_ok nmX5 rfl (by decide) inX5 kw686 dX5_bringBack_21 (tyX5_ok 8 (by decide)) (fun _ _ _ _ _ _ => Or.inl rfl))) <|
  fa_c (ok_r ⟨rfl, dX5_bringBack_24⟩) <|
  fa_n
theorem dX5_voyageBy_0 : decode cX5_voyageBy 0 = .ok (.bipush (-9), 2) := by decide +kernel
theorem dX5_voyageBy_2 : decode cX5_voyageBy 2 = .ok (.istore 4, 2) := by decide +kernel
theorem dX5_voyageBy_4 : decode cX5_voyageBy 4 = .ok (.iconst 0, 1) := by decide +kernel
theorem dX5_voyageBy_5 : decode cX5_voyageBy 5 = .ok (.istore 5, 2) := by decide +kernel
theorem dX5_voyageBy_7 : decode cX5_voyageBy 7 = .ok (.bipush (-9), 2) := by decide +kernel
theorem dX5_voyageBy_9 : decode cX5_voyageBy 9 = .ok (.istore 6, 2) := by decide +kernel
theorem dX5_voyageBy_11 : decode cX5_voyageBy 11 = .ok (.iconst 0, 1) := by decide +kernel
theorem dX5_voyageBy_12 : decode cX5_voyageBy 12 = .ok (.istore 7, 2) := by decide +kernel
theorem dX5_voyageBy_14 : decode cX5_voyageBy 14 = .ok (.iload 7, 2) := by decide +kernel
theorem dX5_voyageBy_16 : decode cX5_voyageBy 16 = .ok (.iload_n 2, 1) := by decide +kernel
theorem dX5_voyageBy_17 : decode cX5_voyageBy 17 = .ok (.if_icmp .ge 125, 3) := by decide +kernel
theorem dX5_voyageBy_20 : decode cX5_voyageBy 20 = .ok (.iload 4, 2) := by decide +kernel
theorem dX5_voyageBy_22 : decode cX5_voyageBy 22 = .ok (.ifCond .ge 120, 3) := by decide +kernel
theorem dX5_voyageBy_25 : decode cX5_voyageBy 25 = .ok (.aload_n 0, 1) := by decide +kernel
theorem dX5_voyageBy_26 : decode cX5_voyageBy 26 = .ok (.aload_n 0, 1) := by decide +kernel
theorem dX5_voyageBy_27 : decode cX5_voyageBy 27 = .ok (.getfield 46, 3) := by decide +kernel
theorem dX5_voyageBy_30 : decode cX5_voyageBy 30 = .ok (.iload_n 1, 1) := by decide +kernel
theorem dX5_voyageBy_31 : decode cX5_voyageBy 31 = .ok (.iload 7, 2) := by decide +kernel
theorem dX5_voyageBy_33 : decode cX5_voyageBy 33 = .ok (.iadd, 1) := by decide +kernel
theorem dX5_voyageBy_34 : decode cX5_voyageBy 34 = .ok (.iaload, 1) := by decide +kernel
theorem dX5_voyageBy_35 : decode cX5_voyageBy 35 = .ok (.invokevirtual 186, 3) := by decide +kernel
theorem dX5_voyageBy_38 : decode cX5_voyageBy 38 = .ok (.ifCond .eq 8, 3) := by decide +kernel
theorem dX5_voyageBy_41 : decode cX5_voyageBy 41 = .ok (.bipush (-9), 2) := by decide +kernel
theorem dX5_voyageBy_43 : decode cX5_voyageBy 43 = .ok (.goto 5, 3) := by decide +kernel
theorem dX5_voyageBy_46 : decode cX5_voyageBy 46 = .ok (.iload 7, 2) := by decide +kernel
theorem dX5_voyageBy_48 : decode cX5_voyageBy 48 = .ok (.istore 4, 2) := by decide +kernel
theorem dX5_voyageBy_50 : decode cX5_voyageBy 50 = .ok (.iconst 0, 1) := by decide +kernel
theorem dX5_voyageBy_51 : decode cX5_voyageBy 51 = .ok (.istore 8, 2) := by decide +kernel
theorem dX5_voyageBy_53 : decode cX5_voyageBy 53 = .ok (.iload 8, 2) := by decide +kernel
theorem dX5_voyageBy_55 : decode cX5_voyageBy 55 = .ok (.aload_n 0, 1) := by decide +kernel
theorem dX5_voyageBy_56 : decode cX5_voyageBy 56 = .ok (.getfield 62, 3) := by decide +kernel
theorem dX5_voyageBy_59 : decode cX5_voyageBy 59 = .ok (.if_icmp .ge 77, 3) := by decide +kernel
theorem dX5_voyageBy_62 : decode cX5_voyageBy 62 = .ok (.aload_n 0, 1) := by decide +kernel
theorem dX5_voyageBy_63 : decode cX5_voyageBy 63 = .ok (.getfield 141, 3) := by decide +kernel
theorem dX5_voyageBy_66 : decode cX5_voyageBy 66 = .ok (.iload 8, 2) := by decide +kernel
theorem dX5_voyageBy_68 : decode cX5_voyageBy 68 = .ok (.invokestatic 154, 3) := by decide +kernel
theorem dX5_voyageBy_71 : decode cX5_voyageBy 71 = .ok (.ifCond .eq 8, 3) := by decide +kernel
theorem dX5_voyageBy_74 : decode cX5_voyageBy 74 = .ok (.bipush (-9), 2) := by decide +kernel
theorem dX5_voyageBy_76 : decode cX5_voyageBy 76 = .ok (.goto 20, 3) := by decide +kernel
theorem dX5_voyageBy_79 : decode cX5_voyageBy 79 = .ok (.aload_n 0, 1) := by decide +kernel
theorem dX5_voyageBy_80 : decode cX5_voyageBy 80 = .ok (.iload 8, 2) := by decide +kernel
theorem dX5_voyageBy_82 : decode cX5_voyageBy 82 = .ok (.aload_n 0, 1) := by decide +kernel
theorem dX5_voyageBy_83 : decode cX5_voyageBy 83 = .ok (.getfield 7, 3) := by decide +kernel
theorem dX5_voyageBy_86 : decode cX5_voyageBy 86 = .ok (.aload_n 0, 1) := by decide +kernel
theorem dX5_voyageBy_87 : decode cX5_voyageBy 87 = .ok (.iload 8, 2) := by decide +kernel
theorem dX5_voyageBy_89 : decode cX5_voyageBy 89 = .ok (.invokevirtual 157, 3) := by decide +kernel
theorem dX5_voyageBy_92 : decode cX5_voyageBy 92 = .ok (.iaload, 1) := by decide +kernel
theorem dX5_voyageBy_93 : decode cX5_voyageBy 93 = .ok (.invokevirtual 163, 3) := by decide +kernel
theorem dX5_voyageBy_96 : decode cX5_voyageBy 96 = .ok (.istore 9, 2) := by decide +kernel
theorem dX5_voyageBy_98 : decode cX5_voyageBy 98 = .ok (.iload 5, 2) := by decide +kernel
theorem dX5_voyageBy_100 : decode cX5_voyageBy 100 = .ok (.iload 9, 2) := by decide +kernel
theorem dX5_voyageBy_102 : decode cX5_voyageBy 102 = .ok (.ifCond .ge 7, 3) := by decide +kernel
theorem dX5_voyageBy_105 : decode cX5_voyageBy 105 = .ok (.iconst 0, 1) := by decide +kernel
theorem dX5_voyageBy_106 : decode cX5_voyageBy 106 = .ok (.goto 5, 3) := by decide +kernel
theorem dX5_voyageBy_109 : decode cX5_voyageBy 109 = .ok (.iload 9, 2) := by decide +kernel
theorem dX5_voyageBy_111 : decode cX5_voyageBy 111 = .ok (.iadd, 1) := by decide +kernel
theorem dX5_voyageBy_112 : decode cX5_voyageBy 112 = .ok (.istore 5, 2) := by decide +kernel
theorem dX5_voyageBy_114 : decode cX5_voyageBy 114 = .ok (.iload 9, 2) := by decide +kernel
theorem dX5_voyageBy_116 : decode cX5_voyageBy 116 = .ok (.iload 6, 2) := by decide +kernel
theorem dX5_voyageBy_118 : decode cX5_voyageBy 118 = .ok (.if_icmp .le 8, 3) := by decide +kernel
theorem dX5_voyageBy_121 : decode cX5_voyageBy 121 = .ok (.iload 9, 2) := by decide +kernel
theorem dX5_voyageBy_123 : decode cX5_voyageBy 123 = .ok (.goto 5, 3) := by decide +kernel
theorem dX5_voyageBy_126 : decode cX5_voyageBy 126 = .ok (.iload 6, 2) := by decide +kernel
theorem dX5_voyageBy_128 : decode cX5_voyageBy 128 = .ok (.istore 6, 2) := by decide +kernel
theorem dX5_voyageBy_130 : decode cX5_voyageBy 130 = .ok (.iinc 8 1, 3) := by decide +kernel
theorem dX5_voyageBy_133 : decode cX5_voyageBy 133 = .ok (.goto (-80), 3) := by decide +kernel
theorem dX5_voyageBy_136 : decode cX5_voyageBy 136 = .ok (.iinc 7 1, 3) := by decide +kernel
theorem dX5_voyageBy_139 : decode cX5_voyageBy 139 = .ok (.goto (-125), 3) := by decide +kernel
theorem dX5_voyageBy_142 : decode cX5_voyageBy 142 = .ok (.iload_n 3, 1) := by decide +kernel
theorem dX5_voyageBy_143 : decode cX5_voyageBy 143 = .ok (.iconst 1, 1) := by decide +kernel
theorem dX5_voyageBy_144 : decode cX5_voyageBy 144 = .ok (.if_icmp .ne 6, 3) := by decide +kernel
theorem dX5_voyageBy_147 : decode cX5_voyageBy 147 = .ok (.iload 4, 2) := by decide +kernel
theorem dX5_voyageBy_149 : decode cX5_voyageBy 149 = .ok (.ireturn, 1) := by decide +kernel
theorem dX5_voyageBy_150 : decode cX5_voyageBy 150 = .ok (.iload 4, 2) := by decide +kernel
theorem dX5_voyageBy_152 : decode cX5_voyageBy 152 = .ok (.ifCond .lt 9, 3) := by decide +kernel
theorem dX5_voyageBy_155 : decode cX5_voyageBy 155 = .ok (.bipush (-100), 2) := by decide +kernel
theorem dX5_voyageBy_157 : decode cX5_voyageBy 157 = .ok (.iload 4, 2) := by decide +kernel
theorem dX5_voyageBy_159 : decode cX5_voyageBy 159 = .ok (.isub, 1) := by decide +kernel
theorem dX5_voyageBy_160 : decode cX5_voyageBy 160 = .ok (.ireturn, 1) := by decide +kernel
theorem dX5_voyageBy_161 : decode cX5_voyageBy 161 = .ok (.iload_n 3, 1) := by decide +kernel
theorem dX5_voyageBy_162 : decode cX5_voyageBy 162 = .ok (.ifCond .ne 21, 3) := by decide +kernel
theorem dX5_voyageBy_165 : decode cX5_voyageBy 165 = .ok (.aload_n 0, 1) := by decide +kernel
theorem dX5_voyageBy_166 : decode cX5_voyageBy 166 = .ok (.getfield 147, 3) := by decide +kernel
theorem dX5_voyageBy_169 : decode cX5_voyageBy 169 = .ok (.invokestatic 171, 3) := by decide +kernel
theorem dX5_voyageBy_172 : decode cX5_voyageBy 172 = .ok (.aload_n 0, 1) := by decide +kernel
theorem dX5_voyageBy_173 : decode cX5_voyageBy 173 = .ok (.getfield 195, 3) := by decide +kernel
theorem dX5_voyageBy_176 : decode cX5_voyageBy 176 = .ok (.invokestatic 171, 3) := by decide +kernel
theorem dX5_voyageBy_179 : decode cX5_voyageBy 179 = .ok (.isub, 1) := by decide +kernel
theorem dX5_voyageBy_180 : decode cX5_voyageBy 180 = .ok (.goto 28, 3) := by decide +kernel
theorem dX5_voyageBy_183 : decode cX5_voyageBy 183 = .ok (.iload_n 3, 1) := by decide +kernel
theorem dX5_voyageBy_184 : decode cX5_voyageBy 184 = .ok (.iconst 2, 1) := by decide +kernel
theorem dX5_voyageBy_185 : decode cX5_voyageBy 185 = .ok (.if_icmp .ne 8, 3) := by decide +kernel
theorem dX5_voyageBy_188 : decode cX5_voyageBy 188 = .ok (.iload 5, 2) := by decide +kernel
theorem dX5_voyageBy_190 : decode cX5_voyageBy 190 = .ok (.goto 18, 3) := by decide +kernel
theorem dX5_voyageBy_193 : decode cX5_voyageBy 193 = .ok (.iload_n 3, 1) := by decide +kernel
theorem dX5_voyageBy_194 : decode cX5_voyageBy 194 = .ok (.iconst 3, 1) := by decide +kernel
theorem dX5_voyageBy_195 : decode cX5_voyageBy 195 = .ok (.if_icmp .ne 8, 3) := by decide +kernel
theorem dX5_voyageBy_198 : decode cX5_voyageBy 198 = .ok (.iload 6, 2) := by decide +kernel
theorem dX5_voyageBy_200 : decode cX5_voyageBy 200 = .ok (.goto 8, 3) := by decide +kernel
theorem dX5_voyageBy_203 : decode cX5_voyageBy 203 = .ok (.aload_n 0, 1) := by decide +kernel
theorem dX5_voyageBy_204 : decode cX5_voyageBy 204 = .ok (.iconst 0, 1) := by decide +kernel
theorem dX5_voyageBy_205 : decode cX5_voyageBy 205 = .ok (.invokevirtual 157, 3) := by decide +kernel
theorem dX5_voyageBy_208 : decode cX5_voyageBy 208 = .ok (.ireturn, 1) := by decide +kernel
set_option maxRecDepth 20000 in
theorem tkX5_voyageBy : ∀ q ∈ tbX5_voyageBy, xOk (Zm false yX5_voyageBy.name) RX5 cX5_voyageBy 10 (some .int) pT pY q :=
  fa_c (ok_p (xg_st _ _) (x_bipush dX5_voyageBy_0 rfl)) <|
  fa_c (ok_p (xg_store _ _ _) (x_istore dX5_voyageBy_2)) <|
  fa_c (ok_p (xg_st _ _) (x_iconst dX5_voyageBy_4 rfl)) <|
  fa_c (ok_p (xg_store _ _ _) (x_istore dX5_voyageBy_5)) <|
  fa_c (ok_p (xg_st _ _) (x_bipush dX5_voyageBy_7 rfl)) <|
  fa_c (ok_p (xg_store _ _ _) (x_istore dX5_voyageBy_9)) <|
  fa_c (ok_p (xg_st _ _) (x_iconst dX5_voyageBy_11 rfl)) <|
  fa_c (ok_p (xg_store _ _ _) (x_istore dX5_voyageBy_12)) <|
  fa_c (ok_p (xg_clr _ (xg_load _ _ _)) (x_clr _ (x_iload dX5_voyageBy_14))) <|
  fa_c (ok_p (xg_load _ _ _) (x_iload_n dX5_voyageBy_16 rfl)) <|
  fa_c (ok_p (xg_icmp _ _ _) (x_icmp_ge dX5_voyageBy_17 (by decide))) <|
  fa_c (ok_p (xg_load _ _ _) (x_iload dX5_voyageBy_20)) <|
  fa_c (ok_p (xg_if _ _ _) (x_if_ge dX5_voyageBy_22 (by decide))) <|
  fa_c (ok_p (xg_load _ _ _) (x_aload_n dX5_voyageBy_25 rfl)) <|
  fa_c (ok_p (xg_load _ _ _) (x_aload_n dX5_voyageBy_26 rfl)) <|
  fa_c (ok_p (xg_getf _ _ _) (x_getf (C := RX5) (T := TX5) (N := 34) rfl (by decide) inX5 kw709 dX5_voyageBy_27)) <|
  fa_c (ok_p (xg_load _ _ _) (x_iload_n dX5_voyageBy_30 rfl)) <|
  fa_c (ok_p (xg_load _ _ _) (x_iload dX5_voyageBy_31)) <|
  fa_c (ok_p (xg_st _ _) (x_iadd dX5_voyageBy_33)) <|
  fa_c (ok_p (xg_iald _) (x_iald dX5_voyageBy_34)) <|
  fa_c (ok_c pT_152 pY_152 (x_callV (n := 1) (C := RX5) (T := TX5) (N := 34) rfl rfl kw891 kw893 kw39 kw63 kw894 (by decide +kernel) dX5_voyageBy_35)) <|
  fa_c (ok_p (xg_if _ _ _) (x_if_eq dX5_voyageBy_38 (by decide))) <|
  fa_c (ok_p (xg_st _ _) (x_bipush dX5_voyageBy_41 rfl)) <|
  fa_c (ok_p (xg_st _ _) (x_goto dX5_voyageBy_43 (by decide))) <|
  fa_c (ok_p (xg_load _ _ _) (x_iload dX5_voyageBy_46)) <|
  fa_c (ok_p (xg_store _ _ _) (x_istore dX5_voyageBy_48)) <|
  fa_c (ok_p (xg_st _ _) (x_iconst dX5_voyageBy_50 rfl)) <|
  fa_c (ok_p (xg_store _ _ _) (x_istore dX5_voyageBy_51)) <|
  fa_c (ok_p (xg_clr _ (xg_load _ _ _)) (x_clr _ (x_iload dX5_voyageBy_53))) <|
  fa_c (ok_p (xg_load _ _ _) (x_aload_n dX5_voyageBy_55 rfl)) <|
  fa_c (ok_p (xg_getf _ _ _) (x_getf (C := RX5) (T := TX5) (N := 34) rfl (by decide) inX5 kw681 dX5_voyageBy_56)) <|
  fa_c (ok_p (xg_icmp _ _ _) (x_icmp_ge dX5_voyageBy_59 (by decide))) <|
  fa_c (ok_p (xg_load _ _ _) (x_aload_n dX5_voyageBy_62 rfl)) <|
  fa_c (ok_p (xg_getf _ _ _) (x_getf (C := RX5) (T := TX5) (N := 34) rfl (by decide) inX5 kw685 dX5_voyageBy_63)) <|
  fa_c (ok_p (xg_load _ _ _) (x_iload dX5_voyageBy_66)) <|
  fa_c (ok_c pT_124 pY_124 (x_callS (n := 2) rfl kw832 kw833 kw63 kw834 (by decide +kernel) dX5_voyageBy_68)) <|
  fa_c (ok_p (xg_if _ _ _) (x_if_eq dX5_voyageBy_71 (by decide))) <|
  fa_c (ok_p (xg_st _ _) (x_bipush dX5_voyageBy_74 rfl)) <|
  fa_c (ok_p (xg_st _ _) (x_goto dX5_voyageBy_76 (by decide))) <|
  fa_c (ok_p (xg_load _ _ _) (x_aload_n dX5_voyageBy_79 rfl)) <|
  fa_c (ok_p (xg_load _ _ _) (x_iload dX5_voyageBy_80)) <|
  fa_c (ok_p (xg_load _ _ _) (x_aload_n dX5_voyageBy_82 rfl)) <|
  fa_c (ok_p (xg_getf _ _ _) (x_getf (C := RX5) (T := TX5) (N := 34) rfl (by decide) inX5 kw687 dX5_voyageBy_83)) <|
  fa_c (ok_p (xg_load _ _ _) (x_aload_n dX5_voyageBy_86 rfl)) <|
  fa_c (ok_p (xg_load _ _ _) (x_iload dX5_voyageBy_87)) <|
  fa_c (ok_c pT_139 pY_139 (x_callV (n := 1) (C := RX5) (T := TX5) (N := 34) rfl rfl kw835 kw837 kw35 kw63 kw838 (by decide +kernel) dX5_voyageBy_89)) <|
  fa_c (ok_p (xg_iald _) (x_iald dX5_voyageBy_92)) <|
  fa_c (ok_c pT_140 pY_140 (x_callV (n := 2) (C := RX5) (T := TX5) (N := 34) rfl rfl kw847 kw849 kw37 kw63 kw850 (by decide +kernel) dX5_voyageBy_93)) <|
  fa_c (ok_p (xg_store _ _ _) (x_istore dX5_voyageBy_96)) <|
  fa_c (ok_p (xg_load _ _ _) (x_iload dX5_voyageBy_98)) <|
  fa_c (ok_p (xg_load _ _ _) (x_iload dX5_voyageBy_100)) <|
  fa_c (ok_p (xg_if _ _ _) (x_if_ge dX5_voyageBy_102 (by decide))) <|
  fa_c (ok_p (xg_st _ _) (x_iconst dX5_voyageBy_105 rfl)) <|
  fa_c (ok_p (xg_st _ _) (x_goto dX5_voyageBy_106 (by decide))) <|
  fa_c (ok_p (xg_load _ _ _) (x_iload dX5_voyageBy_109)) <|
  fa_c (ok_p (xg_st _ _) (x_iadd dX5_voyageBy_111)) <|
  fa_c (ok_p (xg_store _ _ _) (x_istore dX5_voyageBy_112)) <|
  fa_c (ok_p (xg_load _ _ _) (x_iload dX5_voyageBy_114)) <|
  fa_c (ok_p (xg_load _ _ _) (x_iload dX5_voyageBy_116)) <|
  fa_c (ok_p (xg_icmp _ _ _) (x_icmp_le dX5_voyageBy_118 (by decide))) <|
  fa_c (ok_p (xg_load _ _ _) (x_iload dX5_voyageBy_121)) <|
  fa_c (ok_p (xg_st _ _) (x_goto dX5_voyageBy_123 (by decide))) <|
  fa_c (ok_p (xg_load _ _ _) (x_iload dX5_voyageBy_126)) <|
  fa_c (ok_p (xg_store _ _ _) (x_istore dX5_voyageBy_128)) <|
  fa_c (ok_p (xg_iinc _ _ _) (x_iinc dX5_voyageBy_130 rfl)) <|
  fa_c (ok_p (xg_st _ _) (x_goto dX5_voyageBy_133 (by decide))) <|
  fa_c (ok_p (xg_iinc _ _ _) (x_iinc dX5_voyageBy_136 rfl)) <|
  fa_c (ok_p (xg_st _ _) (x_goto dX5_voyageBy_139 (by decide))) <|
  fa_c (ok_p (xg_load _ _ _) (x_iload_n dX5_voyageBy_142 rfl)) <|
  fa_c (ok_p (xg_st _ _) (x_iconst dX5_voyageBy_143 rfl)) <|
  fa_c (ok_p (xg_icmp _ _ _) (x_icmp_ne dX5_voyageBy_144 (by decide))) <|
  fa_c (ok_p (xg_load _ _ _) (x_iload dX5_voyageBy_147)) <|
  fa_c (ok_r ⟨rfl, dX5_voyageBy_149⟩) <|
  fa_c (ok_p (xg_load _ _ _) (x_iload dX5_voyageBy_150)) <|
  fa_c (ok_p (xg_if _ _ _) (x_if_lt dX5_voyageBy_152 (by decide))) <|
  fa_c (ok_p (xg_st _ _) (x_bipush dX5_voyageBy_155 rfl)) <|
  fa_c (ok_p (xg_load _ _ _) (x_iload dX5_voyageBy_157)) <|
  fa_c (ok_p (xg_st _ _) (x_isub dX5_voyageBy_159)) <|
  fa_c (ok_r ⟨rfl, dX5_voyageBy_160⟩) <|
  fa_c (ok_p (xg_load _ _ _) (x_iload_n dX5_voyageBy_161 rfl)) <|
  fa_c (ok_p (xg_if _ _ _) (x_if_ne dX5_voyageBy_162 (by decide))) <|
  fa_c (ok_p (xg_load _ _ _) (x_aload_n dX5_voyageBy_165 rfl)) <|
  fa_c (ok_p (xg_getf _ _ _) (x_getf (C := RX5) (T := TX5) (N := 34) rfl (by decide) inX5 kw686 dX5_voyageBy_166)) <|
  fa_c (ok_c pT_125 pY_125 (x_callS (n := 1) rfl kw872 kw873 kw63 kw874 (by decide +kernel) dX5_voyageBy_169)) <|
  fa_c (ok_p (xg_load _ _ _) (x_aload_n dX5_voyageBy_172 rfl)) <|
  fa_c (ok_p (xg_getf _ _ _) (x_getf (C := RX5) (T := TX5) (N := 34) rfl (by decide) inX5 kw701 dX5_voyageBy_173)) <|
  fa_c (ok_c pT_125 pY_125 (x_callS (n := 1) rfl kw872 kw873 kw63 kw874 (by decide +kernel) dX5_voyageBy_176)) <|
  fa_c (ok_p (xg_st _ _) (x_isub dX5_voyageBy_179)) <|
  fa_c (ok_p (xg_st _ _) (x_goto dX5_voyageBy_180 (by decide))) <|
  fa_c (ok_p (xg_load _ _ _) (x_iload_n dX5_voyageBy_183 rfl)) <|
  fa_c (ok_p (xg_st _ _) (x_iconst dX5_voyageBy_184 rfl)) <|
  fa_c (ok_p (xg_icmp _ _ _) (x_icmp_ne dX5_voyageBy_185 (by decide))) <|
  fa_c (ok_p (xg_load _ _ _) (x_iload dX5_voyageBy_188)) <|
  fa_c (ok_p (xg_st _ _) (x_goto dX5_voyageBy_190 (by decide))) <|
  fa_c (ok_p (xg_load _ _ _) (x_iload_n dX5_voyageBy_193 rfl)) <|
  fa_c (ok_p (xg_st _ _) (x_iconst dX5_voyageBy_194 rfl)) <|
  fa_c (ok_p (xg_icmp _ _ _) (x_icmp_ne dX5_voyageBy_195 (by decide))) <|
  fa_c (ok_p (xg_load _ _ _) (x_iload dX5_voyageBy_198)) <|
  fa_c (ok_p (xg_st _ _) (x_goto dX5_voyageBy_200 (by decide))) <|
  fa_c (ok_p (xg_load _ _ _) (x_aload_n dX5_voyageBy_203 rfl)) <|
  fa_c (ok_p (xg_st _ _) (x_iconst dX5_voyageBy_204 rfl)) <|
  fa_c (ok_c pT_139 pY_139 (x_callV (n := 1) (C := RX5) (T := TX5) (N := 34) rfl rfl kw835 kw837 kw35 kw63 kw838 (by decide +kernel) dX5_voyageBy_205)) <|
  fa_c (ok_r ⟨rfl, dX5_voyageBy_208⟩) <|
  fa_n
theorem dX5_voyage_0 : decode cX5_voyage 0 = .ok (.iload_n 1, 1) := by decide +kernel
theorem dX5_voyage_1 : decode cX5_voyage 1 = .ok (.invokestatic 116, 3) := by decide +kernel
theorem dX5_voyage_4 : decode cX5_voyage 4 = .ok (.ifCond .eq 9, 3) := by decide +kernel
theorem dX5_voyage_7 : decode cX5_voyage 7 = .ok (.aload_n 0, 1) := by decide +kernel
theorem dX5_voyage_8 : decode cX5_voyage 8 = .ok (.iconst (-1), 1) := by decide +kernel
theorem dX5_voyage_9 : decode cX5_voyage 9 = .ok (.invokevirtual 120, 3) := by decide +kernel
theorem dX5_voyage_12 : decode cX5_voyage 12 = .ok (.ireturn, 1) := by decide +kernel
theorem dX5_voyage_13 : decode cX5_voyage 13 = .ok (.iload_n 2, 1) := by decide +kernel
theorem dX5_voyage_14 : decode cX5_voyage 14 = .ok (.i2l, 1) := by decide +kernel
theorem dX5_voyage_15 : decode cX5_voyage 15 = .ok (.lconst 0, 1) := by decide +kernel
theorem dX5_voyage_16 : decode cX5_voyage 16 = .ok (.ldc2_w 123, 3) := by decide +kernel
theorem dX5_voyage_19 : decode cX5_voyage 19 = .ok (.invokestatic 65, 3) := by decide +kernel
theorem dX5_voyage_22 : decode cX5_voyage 22 = .ok (.ifCond .eq 29, 3) := by decide +kernel
theorem dX5_voyage_25 : decode cX5_voyage 25 = .ok (.iload 4, 2) := by decide +kernel
theorem dX5_voyage_27 : decode cX5_voyage 27 = .ok (.i2l, 1) := by decide +kernel
theorem dX5_voyage_28 : decode cX5_voyage 28 = .ok (.lconst 0, 1) := by decide +kernel
theorem dX5_voyage_29 : decode cX5_voyage 29 = .ok (.ldc2_w 198, 3) := by decide +kernel
theorem dX5_voyage_32 : decode cX5_voyage 32 = .ok (.invokestatic 65, 3) := by decide +kernel
theorem dX5_voyage_35 : decode cX5_voyage 35 = .ok (.ifCond .eq 16, 3) := by decide +kernel
theorem dX5_voyage_38 : decode cX5_voyage 38 = .ok (.iload 5, 2) := by decide +kernel
theorem dX5_voyage_40 : decode cX5_voyage 40 = .ok (.i2l, 1) := by decide +kernel
theorem dX5_voyage_41 : decode cX5_voyage 41 = .ok (.lconst 0, 1) := by decide +kernel
theorem dX5_voyage_42 : decode cX5_voyage 42 = .ok (.ldc2_w 200, 3) := by decide +kernel
theorem dX5_voyage_45 : decode cX5_voyage 45 = .ok (.invokestatic 65, 3) := by decide +kernel
theorem dX5_voyage_48 : decode cX5_voyage 48 = .ok (.ifCond .ne 10, 3) := by decide +kernel
theorem dX5_voyage_51 : decode cX5_voyage 51 = .ok (.aload_n 0, 1) := by decide +kernel
theorem dX5_voyage_52 : decode cX5_voyage 52 = .ok (.bipush (-2), 2) := by decide +kernel
theorem dX5_voyage_54 : decode cX5_voyage 54 = .ok (.invokevirtual 120, 3) := by decide +kernel
theorem dX5_voyage_57 : decode cX5_voyage 57 = .ok (.ireturn, 1) := by decide +kernel
theorem dX5_voyage_58 : decode cX5_voyage 58 = .ok (.aload_n 0, 1) := by decide +kernel
theorem dX5_voyage_59 : decode cX5_voyage 59 = .ok (.getfield 62, 3) := by decide +kernel
theorem dX5_voyage_62 : decode cX5_voyage 62 = .ok (.ifCond .ne 10, 3) := by decide +kernel
theorem dX5_voyage_65 : decode cX5_voyage 65 = .ok (.aload_n 0, 1) := by decide +kernel
theorem dX5_voyage_66 : decode cX5_voyage 66 = .ok (.bipush (-3), 2) := by decide +kernel
theorem dX5_voyage_68 : decode cX5_voyage 68 = .ok (.invokevirtual 120, 3) := by decide +kernel
theorem dX5_voyage_71 : decode cX5_voyage 71 = .ok (.ireturn, 1) := by decide +kernel
theorem dX5_voyage_72 : decode cX5_voyage 72 = .ok (.aload_n 0, 1) := by decide +kernel
theorem dX5_voyage_73 : decode cX5_voyage 73 = .ok (.iload_n 1, 1) := by decide +kernel
theorem dX5_voyage_74 : decode cX5_voyage 74 = .ok (.iload_n 2, 1) := by decide +kernel
theorem dX5_voyage_75 : decode cX5_voyage 75 = .ok (.iload_n 3, 1) := by decide +kernel
theorem dX5_voyage_76 : decode cX5_voyage 76 = .ok (.iload 4, 2) := by decide +kernel
theorem dX5_voyage_78 : decode cX5_voyage 78 = .ok (.i2l, 1) := by decide +kernel
theorem dX5_voyage_79 : decode cX5_voyage 79 = .ok (.invokevirtual 125, 3) := by decide +kernel
theorem dX5_voyage_82 : decode cX5_voyage 82 = .ok (.istore 6, 2) := by decide +kernel
theorem dX5_voyage_84 : decode cX5_voyage 84 = .ok (.iload 6, 2) := by decide +kernel
theorem dX5_voyage_86 : decode cX5_voyage 86 = .ok (.ifCond .ge 6, 3) := by decide +kernel
theorem dX5_voyage_89 : decode cX5_voyage 89 = .ok (.iload 6, 2) := by decide +kernel
theorem dX5_voyage_91 : decode cX5_voyage 91 = .ok (.ireturn, 1) := by decide +kernel
theorem dX5_voyage_92 : decode cX5_voyage 92 = .ok (.iconst 0, 1) := by decide +kernel
theorem dX5_voyage_93 : decode cX5_voyage 93 = .ok (.istore 7, 2) := by decide +kernel
theorem dX5_voyage_95 : decode cX5_voyage 95 = .ok (.iload 7, 2) := by decide +kernel
theorem dX5_voyage_97 : decode cX5_voyage 97 = .ok (.iload 4, 2) := by decide +kernel
theorem dX5_voyage_99 : decode cX5_voyage 99 = .ok (.if_icmp .ge 41, 3) := by decide +kernel
theorem dX5_voyage_102 : decode cX5_voyage 102 = .ok (.aload_n 0, 1) := by decide +kernel
theorem dX5_voyage_103 : decode cX5_voyage 103 = .ok (.getfield 46, 3) := by decide +kernel
theorem dX5_voyage_106 : decode cX5_voyage 106 = .ok (.bipush 60, 2) := by decide +kernel
theorem dX5_voyage_108 : decode cX5_voyage 108 = .ok (.iload_n 1, 1) := by decide +kernel
theorem dX5_voyage_109 : decode cX5_voyage 109 = .ok (.imul, 1) := by decide +kernel
theorem dX5_voyage_110 : decode cX5_voyage 110 = .ok (.iload_n 3, 1) := by decide +kernel
theorem dX5_voyage_111 : decode cX5_voyage 111 = .ok (.iadd, 1) := by decide +kernel
theorem dX5_voyage_112 : decode cX5_voyage 112 = .ok (.iload 7, 2) := by decide +kernel
theorem dX5_voyage_114 : decode cX5_voyage 114 = .ok (.iadd, 1) := by decide +kernel
theorem dX5_voyage_115 : decode cX5_voyage 115 = .ok (.iaload, 1) := by decide +kernel
theorem dX5_voyage_116 : decode cX5_voyage 116 = .ok (.i2l, 1) := by decide +kernel
theorem dX5_voyage_117 : decode cX5_voyage 117 = .ok (.lconst 0, 1) := by decide +kernel
theorem dX5_voyage_118 : decode cX5_voyage 118 = .ok (.ldc2_w 184, 3) := by decide +kernel
theorem dX5_voyage_121 : decode cX5_voyage 121 = .ok (.invokestatic 65, 3) := by decide +kernel
theorem dX5_voyage_124 : decode cX5_voyage 124 = .ok (.ifCond .ne 10, 3) := by decide +kernel
theorem dX5_voyage_127 : decode cX5_voyage 127 = .ok (.aload_n 0, 1) := by decide +kernel
theorem dX5_voyage_128 : decode cX5_voyage 128 = .ok (.bipush (-2), 2) := by decide +kernel
theorem dX5_voyage_130 : decode cX5_voyage 130 = .ok (.invokevirtual 120, 3) := by decide +kernel
theorem dX5_voyage_133 : decode cX5_voyage 133 = .ok (.ireturn, 1) := by decide +kernel
theorem dX5_voyage_134 : decode cX5_voyage 134 = .ok (.iinc 7 1, 3) := by decide +kernel
theorem dX5_voyage_137 : decode cX5_voyage 137 = .ok (.goto (-42), 3) := by decide +kernel
theorem dX5_voyage_140 : decode cX5_voyage 140 = .ok (.aload_n 0, 1) := by decide +kernel
theorem dX5_voyage_141 : decode cX5_voyage 141 = .ok (.invokevirtual 202, 3) := by decide +kernel
theorem dX5_voyage_144 : decode cX5_voyage 144 = .ok (.aload_n 0, 1) := by decide +kernel
theorem dX5_voyage_145 : decode cX5_voyage 145 = .ok (.bipush 60, 2) := by decide +kernel
theorem dX5_voyage_147 : decode cX5_voyage 147 = .ok (.iload_n 1, 1) := by decide +kernel
theorem dX5_voyage_148 : decode cX5_voyage 148 = .ok (.imul, 1) := by decide +kernel
theorem dX5_voyage_149 : decode cX5_voyage 149 = .ok (.iload_n 3, 1) := by decide +kernel
theorem dX5_voyage_150 : decode cX5_voyage 150 = .ok (.iadd, 1) := by decide +kernel
theorem dX5_voyage_151 : decode cX5_voyage 151 = .ok (.iload 4, 2) := by decide +kernel
theorem dX5_voyage_153 : decode cX5_voyage 153 = .ok (.iload 5, 2) := by decide +kernel
theorem dX5_voyage_155 : decode cX5_voyage 155 = .ok (.invokevirtual 205, 3) := by decide +kernel
theorem dX5_voyage_158 : decode cX5_voyage 158 = .ok (.istore 7, 2) := by decide +kernel
theorem dX5_voyage_160 : decode cX5_voyage 160 = .ok (.aload_n 0, 1) := by decide +kernel
theorem dX5_voyage_161 : decode cX5_voyage 161 = .ok (.invokevirtual 209, 3) := by decide +kernel
theorem dX5_voyage_164 : decode cX5_voyage 164 = .ok (.aload_n 0, 1) := by decide +kernel
theorem dX5_voyage_165 : decode cX5_voyage 165 = .ok (.iload 7, 2) := by decide +kernel
theorem dX5_voyage_167 : decode cX5_voyage 167 = .ok (.invokevirtual 120, 3) := by decide +kernel
theorem dX5_voyage_170 : decode cX5_voyage 170 = .ok (.ireturn, 1) := by decide +kernel
set_option maxRecDepth 20000 in
theorem tkX5_voyage : ∀ q ∈ tbX5_voyage, xOk (Zm false yX5_voyage.name) RX5 cX5_voyage 8 (some .int) pT pY q :=
  fa_c (ok_p (xg_load _ _ _) (x_iload_n dX5_voyage_0 rfl)) <|
  fa_c (ok_c pT_179 pY_179 (x_callS (n := 1) rfl kw785 kw786 kw63 kw787 (by decide +kernel) dX5_voyage_1)) <|
  fa_c (ok_p (xg_if _ _ _) (x_if_eq dX5_voyage_4 (by decide))) <|
  fa_c (ok_p (xg_load _ _ _) (x_aload_n dX5_voyage_7 rfl)) <|
  fa_c (ok_p (xg_st _ _) (x_iconst dX5_voyage_8 rfl)) <|
  fa_c (ok_c pT_127 pY_127 (x_callV (n := 1) (C := RX5) (T := TX5) (N := 34) rfl rfl kw792 kw794 kw26 kw63 kw795 (by decide +kernel) dX5_voyage_9)) <|
  fa_c (ok_r ⟨rfl, dX5_voyage_12⟩) <|
  fa_c (ok_p (xg_load _ _ _) (x_iload_n dX5_voyage_13 rfl)) <|
  fa_c (ok_p (xg_st _ _) (x_i2l dX5_voyage_14)) <|
  fa_c (ok_p (xg_st _ _) (x_lconst dX5_voyage_15 rfl)) <|
  fa_c (ok_p (xg_st _ _) (x_ldc2 dX5_voyage_16 kw796)) <|
  fa_c (ok_c pT_122 pY_122 (x_callS (n := 3) rfl kw789 kw790 kw63 kw791 (by decide +kernel) dX5_voyage_19)) <|
  fa_c (ok_p (xg_if _ _ _) (x_if_eq dX5_voyage_22 (by decide))) <|
  fa_c (ok_p (xg_load _ _ _) (x_iload dX5_voyage_25)) <|
  fa_c (ok_p (xg_st _ _) (x_i2l dX5_voyage_27)) <|
  fa_c (ok_p (xg_st _ _) (x_lconst dX5_voyage_28 rfl)) <|
  fa_c (ok_p (xg_st _ _) (x_ldc2 dX5_voyage_29 kw909)) <|
  fa_c (ok_c pT_122 pY_122 (x_callS (n := 3) rfl kw789 kw790 kw63 kw791 (by decide +kernel) dX5_voyage_32)) <|
  fa_c (ok_p (xg_if _ _ _) (x_if_eq dX5_voyage_35 (by decide))) <|
  fa_c (ok_p (xg_load _ _ _) (x_iload dX5_voyage_38)) <|
  fa_c (ok_p (xg_st _ _) (x_i2l dX5_voyage_40)) <|
  fa_c (ok_p (xg_st _ _) (x_lconst dX5_voyage_41 rfl)) <|
  fa_c (ok_p (xg_st _ _) (x_ldc2 dX5_voyage_42 kw910)) <|
  fa_c (ok_c pT_122 pY_122 (x_callS (n := 3) rfl kw789 kw790 kw63 kw791 (by decide +kernel) dX5_voyage_45)) <|
  fa_c (ok_p (xg_if _ _ _) (x_if_ne dX5_voyage_48 (by decide))) <|
  fa_c (ok_p (xg_load _ _ _) (x_aload_n dX5_voyage_51 rfl)) <|
  fa_c (ok_p (xg_st _ _) (x_bipush dX5_voyage_52 rfl)) <|
  fa_c (ok_c pT_127 pY_127 (x_callV (n := 1) (C := RX5) (T := TX5) (N := 34) rfl rfl kw792 kw794 kw26 kw63 kw795 (by decide +kernel) dX5_voyage_54)) <|
  fa_c (ok_r ⟨rfl, dX5_voyage_57⟩) <|
  fa_c (ok_p (xg_load _ _ _) (x_aload_n dX5_voyage_58 rfl)) <|
  fa_c (ok_p (xg_getf _ _ _) (x_getf (C := RX5) (T := TX5) (N := 34) rfl (by decide) inX5 kw681 dX5_voyage_59)) <|
  fa_c (ok_p (xg_if _ _ _) (x_if_ne dX5_voyage_62 (by decide))) <|
  fa_c (ok_p (xg_load _ _ _) (x_aload_n dX5_voyage_65 rfl)) <|
  fa_c (ok_p (xg_st _ _) (x_bipush dX5_voyage_66 rfl)) <|
  fa_c (ok_c pT_127 pY_127 (x_callV (n := 1) (C := RX5) (T := TX5) (N := 34) rfl rfl kw792 kw794 kw26 kw63 kw795 (by decide +kernel) dX5_voyage_68)) <|
  fa_c (ok_r ⟨rfl, dX5_voyage_71⟩) <|
  fa_c (ok_p (xg_load _ _ _) (x_aload_n dX5_voyage_72 rfl)) <|
  fa_c (ok_p (xg_load _ _ _) (x_iload_n dX5_voyage_73 rfl)) <|
  fa_c (ok_p (xg_load _ _ _) (x_iload_n dX5_voyage_74 rfl)) <|
  fa_c (ok_p (xg_load _ _ _) (x_iload_n dX5_voyage_75 rfl)) <|
  fa_c (ok_p (xg_load _ _ _) (x_iload dX5_voyage_76)) <|
  fa_c (ok_p (xg_st _ _) (x_i2l dX5_voyage_78)) <|
  fa_c (ok_c pT_137 pY_137 (x_callV (n := 4) (C := RX5) (T := TX5) (N := 34) rfl rfl kw797 kw799 kw27 kw63 kw800 (by decide +kernel) dX5_voyage_79)) <|
  fa_c (ok_p (xg_store _ _ _) (x_istore dX5_voyage_82)) <|
  fa_c (ok_p (xg_load _ _ _) (x_iload dX5_voyage_84)) <|
  fa_c (ok_p (xg_if _ _ _) (x_if_ge dX5_voyage_86 (by decide))) <|
  fa_c (ok_p (xg_load _ _ _) (x_iload dX5_voyage_89)) <|
  fa_c (ok_r ⟨rfl, dX5_voyage_91⟩) <|
  fa_c (ok_p (xg_st _ _) (x_iconst dX5_voyage_92 rfl)) <|
  fa_c (ok_p (xg_store _ _ _) (x_istore dX5_voyage_93)) <|
  fa_c (ok_p (xg_clr _ (xg_load _ _ _)) (x_clr _ (x_iload dX5_voyage_95))) <|
  fa_c (ok_p (xg_load _ _ _) (x_iload dX5_voyage_97)) <|
  fa_c (ok_p (xg_icmp _ _ _) (x_icmp_ge dX5_voyage_99 (by decide))) <|
  fa_c (ok_p (xg_load _ _ _) (x_aload_n dX5_voyage_102 rfl)) <|
  fa_c (ok_p (xg_getf _ _ _) (x_getf (C := RX5) (T := TX5) (N := 34) rfl (by decide) inX5 kw709 dX5_voyage_103)) <|
  fa_c (ok_p (xg_st _ _) (x_bipush dX5_voyage_106 rfl)) <|
  fa_c (ok_p (xg_load _ _ _) (x_iload_n dX5_voyage_108 rfl)) <|
  fa_c (ok_p (xg_st _ _) (x_imul dX5_voyage_109)) <|
  fa_c (ok_p (xg_load _ _ _) (x_iload_n dX5_voyage_110 rfl)) <|
  fa_c (ok_p (xg_st _ _) (x_iadd dX5_voyage_111)) <|
  fa_c (ok_p (xg_load _ _ _) (x_iload dX5_voyage_112)) <|
  fa_c (ok_p (xg_st _ _) (x_iadd dX5_voyage_114)) <|
  fa_c (ok_p (xg_iald _) (x_iald dX5_voyage_115)) <|
  fa_c (ok_p (xg_st _ _) (x_i2l dX5_voyage_116)) <|
  fa_c (ok_p (xg_st _ _) (x_lconst dX5_voyage_117 rfl)) <|
  fa_c (ok_p (xg_st _ _) (x_ldc2 dX5_voyage_118 kw788)) <|
  fa_c (ok_c pT_122 pY_122 (x_callS (n := 3) rfl kw789 kw790 kw63 kw791 (by decide +kernel) dX5_voyage_121)) <|
  fa_c (ok_p (xg_if _ _ _) (x_if_ne dX5_voyage_124 (by decide))) <|
  fa_c (ok_p (xg_load _ _ _) (x_aload_n dX5_voyage_127 rfl)) <|
  fa_c (ok_p (xg_st _ _) (x_bipush dX5_voyage_128 rfl)) <|
  fa_c (ok_c pT_127 pY_127 (x_callV (n := 1) (C := RX5) (T := TX5) (N := 34) rfl rfl kw792 kw794 kw26 kw63 kw795 (by decide +kernel) dX5_voyage_130)) <|
  fa_c (ok_r ⟨rfl, dX5_voyage_133⟩) <|
  fa_c (ok_p (xg_iinc _ _ _) (x_iinc dX5_voyage_134 rfl)) <|
  fa_c (ok_p (xg_st _ _) (x_goto dX5_voyage_137 (by decide))) <|
  fa_c (ok_p (xg_load _ _ _) (x_aload_n dX5_voyage_140 rfl)) <|
  fa_c (ok_c pT_154 pY_154 (x_callV (n := 0) (C := RX5) (T := TX5) (N := 34) rfl rfl kw911 kw913 kw41 kw63 kw914 (by decide +kernel) dX5_voyage_141)) <|
  fa_c (ok_p (xg_load _ _ _) (x_aload_n dX5_voyage_144 rfl)) <|
  fa_c (ok_p (xg_st _ _) (x_bipush dX5_voyage_145 rfl)) <|
  fa_c (ok_p (xg_load _ _ _) (x_iload_n dX5_voyage_147 rfl)) <|
  fa_c (ok_p (xg_st _ _) (x_imul dX5_voyage_148)) <|
  fa_c (ok_p (xg_load _ _ _) (x_iload_n dX5_voyage_149 rfl)) <|
  fa_c (ok_p (xg_st _ _) (x_iadd dX5_voyage_150)) <|
  fa_c (ok_p (xg_load _ _ _) (x_iload dX5_voyage_151)) <|
  fa_c (ok_p (xg_load _ _ _) (x_iload dX5_voyage_153)) <|
  fa_c (ok_c pT_156 pY_156 (x_callV (n := 3) (C := RX5) (T := TX5) (N := 34) rfl rfl kw915 kw917 kw42 kw63 kw918 (by decide +kernel) dX5_voyage_155)) <|
  fa_c (ok_p (xg_store _ _ _) (x_istore dX5_voyage_158)) <|
  fa_c (ok_p (xg_load _ _ _) (x_aload_n dX5_voyage_160 rfl)) <|
  fa_c (ok_c pT_155 pY_155 (x_callV (n := 0) (C := RX5) (T := TX5) (N := 34) rfl rfl kw919 kw921 kw43 kw63 kw922 (by decide +kernel) dX5_voyage_161)) <|
  fa_c (ok_p (xg_load _ _ _) (x_aload_n dX5_voyage_164 rfl)) <|
  fa_c (ok_p (xg_load _ _ _) (x_iload dX5_voyage_165)) <|
  fa_c (ok_c pT_127 pY_127 (x_callV (n := 1) (C := RX5) (T := TX5) (N := 34) rfl rfl kw792 kw794 kw26 kw63 kw795 (by decide +kernel) dX5_voyage_167)) <|
  fa_c (ok_r ⟨rfl, dX5_voyage_170⟩) <|
  fa_n
theorem dX5_isOver_0 : decode cX5_isOver 0 = .ok (.iconst 0, 1) := by decide +kernel
theorem dX5_isOver_1 : decode cX5_isOver 1 = .ok (.istore 4, 2) := by decide +kernel
theorem dX5_isOver_3 : decode cX5_isOver 3 = .ok (.iconst 0, 1) := by decide +kernel
theorem dX5_isOver_4 : decode cX5_isOver 4 = .ok (.istore 5, 2) := by decide +kernel
theorem dX5_isOver_6 : decode cX5_isOver 6 = .ok (.iload 5, 2) := by decide +kernel
theorem dX5_isOver_8 : decode cX5_isOver 8 = .ok (.aload_n 0, 1) := by decide +kernel
theorem dX5_isOver_9 : decode cX5_isOver 9 = .ok (.getfield 62, 3) := by decide +kernel
theorem dX5_isOver_12 : decode cX5_isOver 12 = .ok (.if_icmp .ge 48, 3) := by decide +kernel
theorem dX5_isOver_15 : decode cX5_isOver 15 = .ok (.iload 4, 2) := by decide +kernel
theorem dX5_isOver_17 : decode cX5_isOver 17 = .ok (.ifCond .ne 30, 3) := by decide +kernel
theorem dX5_isOver_20 : decode cX5_isOver 20 = .ok (.aload_n 0, 1) := by decide +kernel
theorem dX5_isOver_21 : decode cX5_isOver 21 = .ok (.getfield 141, 3) := by decide +kernel
theorem dX5_isOver_24 : decode cX5_isOver 24 = .ok (.iload 5, 2) := by decide +kernel
theorem dX5_isOver_26 : decode cX5_isOver 26 = .ok (.invokestatic 154, 3) := by decide +kernel
theorem dX5_isOver_29 : decode cX5_isOver 29 = .ok (.ifCond .ne 22, 3) := by decide +kernel
theorem dX5_isOver_32 : decode cX5_isOver 32 = .ok (.aload_n 0, 1) := by decide +kernel
theorem dX5_isOver_33 : decode cX5_isOver 33 = .ok (.getfield 69, 3) := by decide +kernel
theorem dX5_isOver_36 : decode cX5_isOver 36 = .ok (.iload_n 2, 1) := by decide +kernel
theorem dX5_isOver_37 : decode cX5_isOver 37 = .ok (.imul, 1) := by decide +kernel
theorem dX5_isOver_38 : decode cX5_isOver 38 = .ok (.iload_n 1, 1) := by decide +kernel
theorem dX5_isOver_39 : decode cX5_isOver 39 = .ok (.iadd, 1) := by decide +kernel
theorem dX5_isOver_40 : decode cX5_isOver 40 = .ok (.iload 5, 2) := by decide +kernel
theorem dX5_isOver_42 : decode cX5_isOver 42 = .ok (.iadd, 1) := by decide +kernel
theorem dX5_isOver_43 : decode cX5_isOver 43 = .ok (.iload_n 3, 1) := by decide +kernel
theorem dX5_isOver_44 : decode cX5_isOver 44 = .ok (.if_icmp .ne 7, 3) := by decide +kernel
theorem dX5_isOver_47 : decode cX5_isOver 47 = .ok (.iconst 1, 1) := by decide +kernel
theorem dX5_isOver_48 : decode cX5_isOver 48 = .ok (.goto 4, 3) := by decide +kernel
theorem dX5_isOver_51 : decode cX5_isOver 51 = .ok (.iconst 0, 1) := by decide +kernel
theorem dX5_isOver_52 : decode cX5_isOver 52 = .ok (.istore 4, 2) := by decide +kernel
theorem dX5_isOver_54 : decode cX5_isOver 54 = .ok (.iinc 5 1, 3) := by decide +kernel
theorem dX5_isOver_57 : decode cX5_isOver 57 = .ok (.goto (-51), 3) := by decide +kernel
theorem dX5_isOver_60 : decode cX5_isOver 60 = .ok (.iload 4, 2) := by decide +kernel
theorem dX5_isOver_62 : decode cX5_isOver 62 = .ok (.ireturn, 1) := by decide +kernel
set_option maxRecDepth 20000 in
theorem tkX5_isOver : ∀ q ∈ tbX5_isOver, xOk (Zm false yX5_isOver.name) RX5 cX5_isOver 6 (some .boolean) pT pY q :=
  fa_c (ok_p (xg_st _ _) (x_iconst dX5_isOver_0 rfl)) <|
  fa_c (ok_p (xg_store _ _ _) (x_istore dX5_isOver_1)) <|
  fa_c (ok_p (xg_st _ _) (x_iconst dX5_isOver_3 rfl)) <|
  fa_c (ok_p (xg_store _ _ _) (x_istore dX5_isOver_4)) <|
  fa_c (ok_p (xg_load _ _ _) (x_iload dX5_isOver_6)) <|
  fa_c (ok_p (xg_load _ _ _) (x_aload_n dX5_isOver_8 rfl)) <|
  fa_c (ok_p (xg_getf _ _ _) (x_getf (C := RX5) (T := TX5) (N := 34) rfl (by decide) inX5 kw681 dX5_isOver_9)) <|
  fa_c (ok_p (xg_icmp _ _ _) (x_icmp_ge dX5_isOver_12 (by decide))) <|
  fa_c (ok_p (xg_load _ _ _) (x_iload dX5_isOver_15)) <|
  fa_c (ok_p (xg_if _ _ _) (x_if_ne dX5_isOver_17 (by decide))) <|
  fa_c (ok_p (xg_load _ _ _) (x_aload_n dX5_isOver_20 rfl)) <|
  fa_c (ok_p (xg_getf _ _ _) (x_getf (C := RX5) (T := TX5) (N := 34) rfl (by decide) inX5 kw685 dX5_isOver_21)) <|
  fa_c (ok_p (xg_load _ _ _) (x_iload dX5_isOver_24)) <|
  fa_c (ok_c pT_124 pY_124 (x_callS (n := 2) rfl kw832 kw833 kw63 kw834 (by decide +kernel) dX5_isOver_26)) <|
  fa_c (ok_p (xg_if _ _ _) (x_if_ne dX5_isOver_29 (by decide))) <|
  fa_c (ok_p (xg_load _ _ _) (x_aload_n dX5_isOver_32 rfl)) <|
  fa_c (ok_p (xg_getf _ _ _) (x_getf (C := RX5) (T := TX5) (N := 34) rfl (by decide) inX5 kw679 dX5_isOver_33)) <|
  fa_c (ok_p (xg_load _ _ _) (x_iload_n dX5_isOver_36 rfl)) <|
  fa_c (ok_p (xg_st _ _) (x_imul dX5_isOver_37)) <|
  fa_c (ok_p (xg_load _ _ _) (x_iload_n dX5_isOver_38 rfl)) <|
  fa_c (ok_p (xg_st _ _) (x_iadd dX5_isOver_39)) <|
  fa_c (ok_p (xg_load _ _ _) (x_iload dX5_isOver_40)) <|
  fa_c (ok_p (xg_st _ _) (x_iadd dX5_isOver_42)) <|
  fa_c (ok_p (xg_load _ _ _) (x_iload_n dX5_isOver_43 rfl)) <|
  fa_c (ok_p (xg_icmp _ _ _) (x_icmp_ne dX5_isOver_44 (by decide))) <|
  fa_c (ok_p (xg_st _ _) (x_iconst dX5_isOver_47 rfl)) <|
  fa_c (ok_p (xg_st _ _) (x_goto dX5_isOver_48 (by decide))) <|
  fa_c (ok_p (xg_st _ _) (x_iconst dX5_isOver_51 rfl)) <|
  fa_c (ok_p (xg_store _ _ _) (x_istore dX5_isOver_52)) <|
  fa_c (ok_p (xg_iinc _ _ _) (x_iinc dX5_isOver_54 rfl)) <|
  fa_c (ok_p (xg_st _ _) (x_goto dX5_isOver_57 (by decide))) <|
  fa_c (ok_p (xg_load _ _ _) (x_iload dX5_isOver_60)) <|
  fa_c (ok_r ⟨rfl, dX5_isOver_62⟩) <|
  fa_n
theorem dX5_farAt_0 : decode cX5_farAt 0 = .ok (.aload_n 0, 1) := by decide +kernel
theorem dX5_farAt_1 : decode cX5_farAt 1 = .ok (.iload_n 1, 1) := by decide +kernel
theorem dX5_farAt_2 : decode cX5_farAt 2 = .ok (.iload_n 2, 1) := by decide +kernel
theorem dX5_farAt_3 : decode cX5_farAt 3 = .ok (.invokevirtual 181, 3) := by decide +kernel
theorem dX5_farAt_6 : decode cX5_farAt 6 = .ok (.ifCond .eq 19, 3) := by decide +kernel
theorem dX5_farAt_9 : decode cX5_farAt 9 = .ok (.aload_n 0, 1) := by decide +kernel
theorem dX5_farAt_10 : decode cX5_farAt 10 = .ok (.getfield 28, 3) := by decide +kernel
theorem dX5_farAt_13 : decode cX5_farAt 13 = .ok (.aload_n 0, 1) := by decide +kernel
theorem dX5_farAt_14 : decode cX5_farAt 14 = .ok (.getfield 69, 3) := by decide +kernel
theorem dX5_farAt_17 : decode cX5_farAt 17 = .ok (.iload_n 2, 1) := by decide +kernel
theorem dX5_farAt_18 : decode cX5_farAt 18 = .ok (.imul, 1) := by decide +kernel
theorem dX5_farAt_19 : decode cX5_farAt 19 = .ok (.iload_n 1, 1) := by decide +kernel
theorem dX5_farAt_20 : decode cX5_farAt 20 = .ok (.iadd, 1) := by decide +kernel
theorem dX5_farAt_21 : decode cX5_farAt 21 = .ok (.iaload, 1) := by decide +kernel
theorem dX5_farAt_22 : decode cX5_farAt 22 = .ok (.goto 5, 3) := by decide +kernel
theorem dX5_farAt_25 : decode cX5_farAt 25 = .ok (.bipush (-9), 2) := by decide +kernel
theorem dX5_farAt_27 : decode cX5_farAt 27 = .ok (.ireturn, 1) := by decide +kernel
set_option maxRecDepth 20000 in
theorem tkX5_farAt : ∀ q ∈ tbX5_farAt, xOk (Zm false yX5_farAt.name) RX5 cX5_farAt 3 (some .int) pT pY q :=
  fa_c (ok_p (xg_load _ _ _) (x_aload_n dX5_farAt_0 rfl)) <|
  fa_c (ok_p (xg_load _ _ _) (x_iload_n dX5_farAt_1 rfl)) <|
  fa_c (ok_p (xg_load _ _ _) (x_iload_n dX5_farAt_2 rfl)) <|
  fa_c (ok_c pT_149 pY_149 (x_callV (n := 2) (C := RX5) (T := TX5) (N := 34) rfl rfl kw901 kw903 kw40 kw63 kw904 (by decide +kernel) dX5_farAt_3)) <|
  fa_c (ok_p (xg_if _ _ _) (x_if_eq dX5_farAt_6 (by decide))) <|
  fa_c (ok_p (xg_load _ _ _) (x_aload_n dX5_farAt_9 rfl)) <|
  fa_c (ok_p (xg_getf _ _ _) (x_getf (C := RX5) (T := TX5) (N := 34) rfl (by decide) inX5 kw702 dX5_farAt_10)) <|
  fa_c (ok_p (xg_load _ _ _) (x_aload_n dX5_farAt_13 rfl)) <|
  fa_c (ok_p (xg_getf _ _ _) (x_getf (C := RX5) (T := TX5) (N := 34) rfl (by decide) inX5 kw679 dX5_farAt_14)) <|
  fa_c (ok_p (xg_load _ _ _) (x_iload_n dX5_farAt_17 rfl)) <|
  fa_c (ok_p (xg_st _ _) (x_imul dX5_farAt_18)) <|
  fa_c (ok_p (xg_load _ _ _) (x_iload_n dX5_farAt_19 rfl)) <|
  fa_c (ok_p (xg_st _ _) (x_iadd dX5_farAt_20)) <|
  fa_c (ok_p (xg_iald _) (x_iald dX5_farAt_21)) <|
  fa_c (ok_p (xg_st _ _) (x_goto dX5_farAt_22 (by decide))) <|
  fa_c (ok_p (xg_st _ _) (x_bipush dX5_farAt_25 rfl)) <|
  fa_c (ok_r ⟨rfl, dX5_farAt_27⟩) <|
  fa_n
theorem dX5_isBeside_0 : decode cX5_isBeside 0 = .ok (.iconst 0, 1) := by decide +kernel
theorem dX5_isBeside_1 : decode cX5_isBeside 1 = .ok (.istore 4, 2) := by decide +kernel
theorem dX5_isBeside_3 : decode cX5_isBeside 3 = .ok (.iconst 0, 1) := by decide +kernel
theorem dX5_isBeside_4 : decode cX5_isBeside 4 = .ok (.istore 5, 2) := by decide +kernel
theorem dX5_isBeside_6 : decode cX5_isBeside 6 = .ok (.iload 5, 2) := by decide +kernel
theorem dX5_isBeside_8 : decode cX5_isBeside 8 = .ok (.iconst 4, 1) := by decide +kernel
theorem dX5_isBeside_9 : decode cX5_isBeside 9 = .ok (.if_icmp .ge 43, 3) := by decide +kernel
theorem dX5_isBeside_12 : decode cX5_isBeside 12 = .ok (.iload 4, 2) := by decide +kernel
theorem dX5_isBeside_14 : decode cX5_isBeside 14 = .ok (.ifCond .ne 25, 3) := by decide +kernel
theorem dX5_isBeside_17 : decode cX5_isBeside 17 = .ok (.aload_n 0, 1) := by decide +kernel
theorem dX5_isBeside_18 : decode cX5_isBeside 18 = .ok (.iload_n 1, 1) := by decide +kernel
theorem dX5_isBeside_19 : decode cX5_isBeside 19 = .ok (.iload 5, 2) := by decide +kernel
theorem dX5_isBeside_21 : decode cX5_isBeside 21 = .ok (.invokestatic 175, 3) := by decide +kernel
theorem dX5_isBeside_24 : decode cX5_isBeside 24 = .ok (.iadd, 1) := by decide +kernel
theorem dX5_isBeside_25 : decode cX5_isBeside 25 = .ok (.iload_n 2, 1) := by decide +kernel
theorem dX5_isBeside_26 : decode cX5_isBeside 26 = .ok (.iload 5, 2) := by decide +kernel
theorem dX5_isBeside_28 : decode cX5_isBeside 28 = .ok (.invokestatic 178, 3) := by decide +kernel
theorem dX5_isBeside_31 : decode cX5_isBeside 31 = .ok (.iadd, 1) := by decide +kernel
theorem dX5_isBeside_32 : decode cX5_isBeside 32 = .ok (.invokevirtual 212, 3) := by decide +kernel
theorem dX5_isBeside_35 : decode cX5_isBeside 35 = .ok (.iload_n 3, 1) := by decide +kernel
theorem dX5_isBeside_36 : decode cX5_isBeside 36 = .ok (.if_icmp .ne 7, 3) := by decide +kernel
theorem dX5_isBeside_39 : decode cX5_isBeside 39 = .ok (.iconst 1, 1) := by decide +kernel
theorem dX5_isBeside_40 : decode cX5_isBeside 40 = .ok (.goto 4, 3) := by decide +kernel
theorem dX5_isBeside_43 : decode cX5_isBeside 43 = .ok (.iconst 0, 1) := by decide +kernel
theorem dX5_isBeside_44 : decode cX5_isBeside 44 = .ok (.istore 4, 2) := by decide +kernel
theorem dX5_isBeside_46 : decode cX5_isBeside 46 = .ok (.iinc 5 1, 3) := by decide +kernel
theorem dX5_isBeside_49 : decode cX5_isBeside 49 = .ok (.goto (-43), 3) := by decide +kernel
theorem dX5_isBeside_52 : decode cX5_isBeside 52 = .ok (.iload 4, 2) := by decide +kernel
theorem dX5_isBeside_54 : decode cX5_isBeside 54 = .ok (.ireturn, 1) := by decide +kernel
set_option maxRecDepth 20000 in
theorem tkX5_isBeside : ∀ q ∈ tbX5_isBeside, xOk (Zm false yX5_isBeside.name) RX5 cX5_isBeside 6 (some .boolean) pT pY q :=
  fa_c (ok_p (xg_st _ _) (x_iconst dX5_isBeside_0 rfl)) <|
  fa_c (ok_p (xg_store _ _ _) (x_istore dX5_isBeside_1)) <|
  fa_c (ok_p (xg_st _ _) (x_iconst dX5_isBeside_3 rfl)) <|
  fa_c (ok_p (xg_store _ _ _) (x_istore dX5_isBeside_4)) <|
  fa_c (ok_p (xg_load _ _ _) (x_iload dX5_isBeside_6)) <|
  fa_c (ok_p (xg_st _ _) (x_iconst dX5_isBeside_8 rfl)) <|
  fa_c (ok_p (xg_icmp _ _ _) (x_icmp_ge dX5_isBeside_9 (by decide))) <|
  fa_c (ok_p (xg_load _ _ _) (x_iload dX5_isBeside_12)) <|
  fa_c (ok_p (xg_if _ _ _) (x_if_ne dX5_isBeside_14 (by decide))) <|
  fa_c (ok_p (xg_load _ _ _) (x_aload_n dX5_isBeside_17 rfl)) <|
  fa_c (ok_p (xg_load _ _ _) (x_iload_n dX5_isBeside_18 rfl)) <|
  fa_c (ok_p (xg_load _ _ _) (x_iload dX5_isBeside_19)) <|
  fa_c (ok_c pT_150 pY_150 (x_callS (n := 1) rfl kw895 kw896 kw63 kw897 (by decide +kernel) dX5_isBeside_21)) <|
  fa_c (ok_p (xg_st _ _) (x_iadd dX5_isBeside_24)) <|
  fa_c (ok_p (xg_load _ _ _) (x_iload_n dX5_isBeside_25 rfl)) <|
  fa_c (ok_p (xg_load _ _ _) (x_iload dX5_isBeside_26)) <|
  fa_c (ok_c pT_151 pY_151 (x_callS (n := 1) rfl kw898 kw899 kw63 kw900 (by decide +kernel) dX5_isBeside_28)) <|
  fa_c (ok_p (xg_st _ _) (x_iadd dX5_isBeside_31)) <|
  fa_c (ok_c pT_159 pY_159 (x_callV (n := 2) (C := RX5) (T := TX5) (N := 34) rfl rfl kw940 kw942 kw47 kw63 kw943 (by decide +kernel) dX5_isBeside_32)) <|
  fa_c (ok_p (xg_load _ _ _) (x_iload_n dX5_isBeside_35 rfl)) <|
  fa_c (ok_p (xg_icmp _ _ _) (x_icmp_ne dX5_isBeside_36 (by decide))) <|
  fa_c (ok_p (xg_st _ _) (x_iconst dX5_isBeside_39 rfl)) <|
  fa_c (ok_p (xg_st _ _) (x_goto dX5_isBeside_40 (by decide))) <|
  fa_c (ok_p (xg_st _ _) (x_iconst dX5_isBeside_43 rfl)) <|
  fa_c (ok_p (xg_store _ _ _) (x_istore dX5_isBeside_44)) <|
  fa_c (ok_p (xg_iinc _ _ _) (x_iinc dX5_isBeside_46 rfl)) <|
  fa_c (ok_p (xg_st _ _) (x_goto dX5_isBeside_49 (by decide))) <|
  fa_c (ok_p (xg_load _ _ _) (x_iload dX5_isBeside_52)) <|
  fa_c (ok_r ⟨rfl, dX5_isBeside_54⟩) <|
  fa_n
theorem dX5_measures_0 : decode cX5_measures 0 = .ok (.iconst 0, 1) := by decide +kernel
theorem dX5_measures_1 : decode cX5_measures 1 = .ok (.istore_n 2, 1) := by decide +kernel
theorem dX5_measures_2 : decode cX5_measures 2 = .ok (.iload_n 2, 1) := by decide +kernel
theorem dX5_measures_3 : decode cX5_measures 3 = .ok (.bipush 36, 2) := by decide +kernel
theorem dX5_measures_5 : decode cX5_measures 5 = .ok (.if_icmp .ge 121, 3) := by decide +kernel
theorem dX5_measures_8 : decode cX5_measures 8 = .ok (.iconst 0, 1) := by decide +kernel
theorem dX5_measures_9 : decode cX5_measures 9 = .ok (.istore_n 3, 1) := by decide +kernel
theorem dX5_measures_10 : decode cX5_measures 10 = .ok (.iload_n 3, 1) := by decide +kernel
theorem dX5_measures_11 : decode cX5_measures 11 = .ok (.aload_n 0, 1) := by decide +kernel
theorem dX5_measures_12 : decode cX5_measures 12 = .ok (.getfield 72, 3) := by decide +kernel
theorem dX5_measures_15 : decode cX5_measures 15 = .ok (.if_icmp .ge 105, 3) := by decide +kernel
theorem dX5_measures_18 : decode cX5_measures 18 = .ok (.iconst 0, 1) := by decide +kernel
theorem dX5_measures_19 : decode cX5_measures 19 = .ok (.istore 4, 2) := by decide +kernel
theorem dX5_measures_21 : decode cX5_measures 21 = .ok (.iload 4, 2) := by decide +kernel
theorem dX5_measures_23 : decode cX5_measures 23 = .ok (.aload_n 0, 1) := by decide +kernel
theorem dX5_measures_24 : decode cX5_measures 24 = .ok (.getfield 69, 3) := by decide +kernel
theorem dX5_measures_27 : decode cX5_measures 27 = .ok (.aload_n 0, 1) := by decide +kernel
theorem dX5_measures_28 : decode cX5_measures 28 = .ok (.getfield 62, 3) := by decide +kernel
theorem dX5_measures_31 : decode cX5_measures 31 = .ok (.isub, 1) := by decide +kernel
theorem dX5_measures_32 : decode cX5_measures 32 = .ok (.if_icmp .gt 82, 3) := by decide +kernel
theorem dX5_measures_35 : decode cX5_measures 35 = .ok (.aload_n 0, 1) := by decide +kernel
theorem dX5_measures_36 : decode cX5_measures 36 = .ok (.getfield 69, 3) := by decide +kernel
theorem dX5_measures_39 : decode cX5_measures 39 = .ok (.iload_n 3, 1) := by decide +kernel
theorem dX5_measures_40 : decode cX5_measures 40 = .ok (.imul, 1) := by decide +kernel
theorem dX5_measures_41 : decode cX5_measures 41 = .ok (.iload 4, 2) := by decide +kernel
theorem dX5_measures_43 : decode cX5_measures 43 = .ok (.iadd, 1) := by decide +kernel
theorem dX5_measures_44 : decode cX5_measures 44 = .ok (.istore 5, 2) := by decide +kernel
theorem dX5_measures_46 : decode cX5_measures 46 = .ok (.iload_n 2, 1) := by decide +kernel
theorem dX5_measures_47 : decode cX5_measures 47 = .ok (.ifCond .ne 30, 3) := by decide +kernel
theorem dX5_measures_50 : decode cX5_measures 50 = .ok (.aload_n 0, 1) := by decide +kernel
theorem dX5_measures_51 : decode cX5_measures 51 = .ok (.getfield 28, 3) := by decide +kernel
theorem dX5_measures_54 : decode cX5_measures 54 = .ok (.iload 5, 2) := by decide +kernel
theorem dX5_measures_56 : decode cX5_measures 56 = .ok (.aload_n 0, 1) := by decide +kernel
theorem dX5_measures_57 : decode cX5_measures 57 = .ok (.iload 4, 2) := by decide +kernel
theorem dX5_measures_59 : decode cX5_measures 59 = .ok (.iload_n 3, 1) := by decide +kernel
theorem dX5_measures_60 : decode cX5_measures 60 = .ok (.iload_n 1, 1) := by decide +kernel
theorem dX5_measures_61 : decode cX5_measures 61 = .ok (.invokevirtual 215, 3) := by decide +kernel
theorem dX5_measures_64 : decode cX5_measures 64 = .ok (.ifCond .eq 7, 3) := by decide +kernel
theorem dX5_measures_67 : decode cX5_measures 67 = .ok (.iconst 0, 1) := by decide +kernel
theorem dX5_measures_68 : decode cX5_measures 68 = .ok (.goto 5, 3) := by decide +kernel
theorem dX5_measures_71 : decode cX5_measures 71 = .ok (.bipush (-9), 2) := by decide +kernel
theorem dX5_measures_73 : decode cX5_measures 73 = .ok (.iastore, 1) := by decide +kernel
theorem dX5_measures_74 : decode cX5_measures 74 = .ok (.goto 34, 3) := by decide +kernel
theorem dX5_measures_77 : decode cX5_measures 77 = .ok (.aload_n 0, 1) := by decide +kernel
theorem dX5_measures_78 : decode cX5_measures 78 = .ok (.getfield 28, 3) := by decide +kernel
theorem dX5_measures_81 : decode cX5_measures 81 = .ok (.iload 5, 2) := by decide +kernel
theorem dX5_measures_83 : decode cX5_measures 83 = .ok (.iaload, 1) := by decide +kernel
theorem dX5_measures_84 : decode cX5_measures 84 = .ok (.ifCond .ge 24, 3) := by decide +kernel
theorem dX5_measures_87 : decode cX5_measures 87 = .ok (.aload_n 0, 1) := by decide +kernel
theorem dX5_measures_88 : decode cX5_measures 88 = .ok (.iload 4, 2) := by decide +kernel
theorem dX5_measures_90 : decode cX5_measures 90 = .ok (.iload_n 3, 1) := by decide +kernel
theorem dX5_measures_91 : decode cX5_measures 91 = .ok (.iload_n 2, 1) := by decide +kernel
theorem dX5_measures_92 : decode cX5_measures 92 = .ok (.iconst 1, 1) := by decide +kernel
theorem dX5_measures_93 : decode cX5_measures 93 = .ok (.isub, 1) := by decide +kernel
theorem dX5_measures_94 : decode cX5_measures 94 = .ok (.invokevirtual 219, 3) := by decide +kernel
theorem dX5_measures_97 : decode cX5_measures 97 = .ok (.ifCond .eq 11, 3) := by decide +kernel
theorem dX5_measures_100 : decode cX5_measures 100 = .ok (.aload_n 0, 1) := by decide +kernel
theorem dX5_measures_101 : decode cX5_measures 101 = .ok (.getfield 28, 3) := by decide +kernel
theorem dX5_measures_104 : decode cX5_measures 104 = .ok (.iload 5, 2) := by decide +kernel
theorem dX5_measures_106 : decode cX5_measures 106 = .ok (.iload_n 2, 1) := by decide +kernel
theorem dX5_measures_107 : decode cX5_measures 107 = .ok (.iastore, 1) := by decide +kernel
theorem dX5_measures_108 : decode cX5_measures 108 = .ok (.iinc 4 1, 3) := by decide +kernel
theorem dX5_measures_111 : decode cX5_measures 111 = .ok (.goto (-90), 3) := by decide +kernel
theorem dX5_measures_114 : decode cX5_measures 114 = .ok (.iinc 3 1, 3) := by decide +kernel
theorem dX5_measures_117 : decode cX5_measures 117 = .ok (.goto (-107), 3) := by decide +kernel
theorem dX5_measures_120 : decode cX5_measures 120 = .ok (.iinc 2 1, 3) := by decide +kernel
theorem dX5_measures_123 : decode cX5_measures 123 = .ok (.goto (-121), 3) := by decide +kernel
theorem dX5_measures_126 : decode cX5_measures 126 = .ok (.return_, 1) := by decide +kernel
set_option maxRecDepth 20000 in
theorem tkX5_measures : ∀ q ∈ tbX5_measures, xOk (Zm false yX5_measures.name) RX5 cX5_measures 6 (none) pT pY q :=
  fa_c (ok_p (xg_st _ _) (x_iconst dX5_measures_0 rfl)) <|
  fa_c (ok_p (xg_store _ _ _) (x_istore_n dX5_measures_1 rfl)) <|
  fa_c (ok_p (xg_clr _ (xg_load _ _ _)) (x_clr _ (x_iload_n dX5_measures_2 rfl))) <|
  fa_c (ok_p (xg_st _ _) (x_bipush dX5_measures_3 rfl)) <|
  fa_c (ok_p (xg_icmp _ _ _) (x_icmp_ge dX5_measures_5 (by decide))) <|
  fa_c (ok_p (xg_st _ _) (x_iconst dX5_measures_8 rfl)) <|
  fa_c (ok_p (xg_store _ _ _) (x_istore_n dX5_measures_9 rfl)) <|
  fa_c (ok_p (xg_clr _ (xg_load _ _ _)) (x_clr _ (x_iload_n dX5_measures_10 rfl))) <|
  fa_c (ok_p (xg_load _ _ _) (x_aload_n dX5_measures_11 rfl)) <|
  fa_c (ok_p (xg_getf _ _ _) (x_getf (C := RX5) (T := TX5) (N := 34) rfl (by decide) inX5 kw680 dX5_measures_12)) <|
  fa_c (ok_p (xg_icmp _ _ _) (x_icmp_ge dX5_measures_15 (by decide))) <|
  fa_c (ok_p (xg_st _ _) (x_iconst dX5_measures_18 rfl)) <|
  fa_c (ok_p (xg_store _ _ _) (x_istore dX5_measures_19)) <|
  fa_c (ok_p (xg_clr _ (xg_load _ _ _)) (x_clr _ (x_iload dX5_measures_21))) <|
  fa_c (ok_p (xg_load _ _ _) (x_aload_n dX5_measures_23 rfl)) <|
  fa_c (ok_p (xg_getf _ _ _) (x_getf (C := RX5) (T := TX5) (N := 34) rfl (by decide) inX5 kw679 dX5_measures_24)) <|
  fa_c (ok_p (xg_load _ _ _) (x_aload_n dX5_measures_27 rfl)) <|
  fa_c (ok_p (xg_getf _ _ _) (x_getf (C := RX5) (T := TX5) (N := 34) rfl (by decide) inX5 kw681 dX5_measures_28)) <|
  fa_c (ok_p (xg_st _ _) (x_isub dX5_measures_31)) <|
  fa_c (ok_p (xg_icmp _ _ _) (x_icmp_gt dX5_measures_32 (by decide))) <|
  fa_c (ok_p (xg_load _ _ _) (x_aload_n dX5_measures_35 rfl)) <|
  fa_c (ok_p (xg_getf _ _ _) (x_getf (C := RX5) (T := TX5) (N := 34) rfl (by decide) inX5 kw679 dX5_measures_36)) <|
  fa_c (ok_p (xg_load _ _ _) (x_iload_n dX5_measures_39 rfl)) <|
  fa_c (ok_p (xg_st _ _) (x_imul dX5_measures_40)) <|
  fa_c (ok_p (xg_load _ _ _) (x_iload dX5_measures_41)) <|
  fa_c (ok_p (xg_st _ _) (x_iadd dX5_measures_43)) <|
  fa_c (ok_p (xg_store _ _ _) (x_istore dX5_measures_44)) <|
  fa_c (ok_p (xg_load _ _ _) (x_iload_n dX5_measures_46 rfl)) <|
  fa_c (ok_p (xg_if _ _ _) (x_if_ne dX5_measures_47 (by decide))) <|
  fa_c (ok_p (xg_load _ _ _) (x_aload_n dX5_measures_50 rfl)) <|
  fa_c (ok_p (xg_getf _ _ _) (x_getf (C := RX5) (T := TX5) (N := 34) rfl (by decide) inX5 kw702 dX5_measures_51)) <|
  fa_c (ok_p (xg_load _ _ _) (x_iload dX5_measures_54)) <|
  fa_c (ok_p (xg_load _ _ _) (x_aload_n dX5_measures_56 rfl)) <|
  fa_c (ok_p (xg_load _ _ _) (x_iload dX5_measures_57)) <|
  fa_c (ok_p (xg_load _ _ _) (x_iload_n dX5_measures_59 rfl)) <|
  fa_c (ok_p (xg_load _ _ _) (x_iload_n dX5_measures_60 rfl)) <|
  fa_c (ok_c pT_158 pY_158 (x_callV (n := 3) (C := RX5) (T := TX5) (N := 34) rfl rfl kw932 kw934 kw45 kw63 kw935 (by decide +kernel) dX5_measures_61)) <|
  fa_c (ok_p (xg_if _ _ _) (x_if_eq dX5_measures_64 (by decide))) <|
  fa_c (ok_p (xg_st _ _) (x_iconst dX5_measures_67 rfl)) <|
  fa_c (ok_p (xg_st _ _) (x_goto dX5_measures_68 (by decide))) <|
  fa_c (ok_p (xg_st _ _) (x_bipush dX5_measures_71 rfl)) <|
  fa_c (ok_p (xg_iast _) (x_iast dX5_measures_73)) <|
  fa_c (ok_p (xg_st _ _) (x_goto dX5_measures_74 (by decide))) <|
  fa_c (ok_p (xg_load _ _ _) (x_aload_n dX5_measures_77 rfl)) <|
  fa_c (ok_p (xg_getf _ _ _) (x_getf (C := RX5) (T := TX5) (N := 34) rfl (by decide) inX5 kw702 dX5_measures_78)) <|
  fa_c (ok_p (xg_load _ _ _) (x_iload dX5_measures_81)) <|
  fa_c (ok_p (xg_iald _) (x_iald dX5_measures_83)) <|
  fa_c (ok_p (xg_if _ _ _) (x_if_ge dX5_measures_84 (by decide))) <|
  fa_c (ok_p (xg_load _ _ _) (x_aload_n dX5_measures_87 rfl)) <|
  fa_c (ok_p (xg_load _ _ _) (x_iload dX5_measures_88)) <|
  fa_c (ok_p (xg_load _ _ _) (x_iload_n dX5_measures_90 rfl)) <|
  fa_c (ok_p (xg_load _ _ _) (x_iload_n dX5_measures_91 rfl)) <|
  fa_c (ok_p (xg_st _ _) (x_iconst dX5_measures_92 rfl)) <|
  fa_c (ok_p (xg_st _ _) (x_isub dX5_measures_93)) <|
  fa_c (ok_c pT_160 pY_160 (x_callV (n := 3) (C := RX5) (T := TX5) (N := 34) rfl rfl kw936 kw938 kw46 kw63 kw939 (by decide +kernel) dX5_measures_94)) <|
  fa_c (ok_p (xg_if _ _ _) (x_if_eq dX5_measures_97 (by decide))) <|
  fa_c (ok_p (xg_load _ _ _) (x_aload_n dX5_measures_100 rfl)) <|
  fa_c (ok_p (xg_getf _ _ _) (x_getf (C := RX5) (T := TX5) (N := 34) rfl (by decide) inX5 kw702 dX5_measures_101)) <|
  fa_c (ok_p (xg_load _ _ _) (x_iload dX5_measures_104)) <|
  fa_c (ok_p (xg_load _ _ _) (x_iload_n dX5_measures_106 rfl)) <|
  fa_c (ok_p (xg_iast _) (x_iast dX5_measures_107)) <|
  fa_c (ok_p (xg_iinc _ _ _) (x_iinc dX5_measures_108 rfl)) <|
  fa_c (ok_p (xg_st _ _) (x_goto dX5_measures_111 (by decide))) <|
  fa_c (ok_p (xg_iinc _ _ _) (x_iinc dX5_measures_114 rfl)) <|
  fa_c (ok_p (xg_st _ _) (x_goto dX5_measures_117 (by decide))) <|
  fa_c (ok_p (xg_iinc _ _ _) (x_iinc dX5_measures_120 rfl)) <|
  fa_c (ok_p (xg_st _ _) (x_goto dX5_measures_123 (by decide))) <|
  fa_c (ok_r ⟨rfl, dX5_measures_126⟩) <|
  fa_n
theorem dX5_wayStep_0 : decode cX5_wayStep 0 = .ok (.aload_n 0, 1) := by decide +kernel
theorem dX5_wayStep_1 : decode cX5_wayStep 1 = .ok (.getfield 132, 3) := by decide +kernel
theorem dX5_wayStep_4 : decode cX5_wayStep 4 = .ok (.istore_n 2, 1) := by decide +kernel
theorem dX5_wayStep_5 : decode cX5_wayStep 5 = .ok (.aload_n 0, 1) := by decide +kernel
theorem dX5_wayStep_6 : decode cX5_wayStep 6 = .ok (.getfield 135, 3) := by decide +kernel
theorem dX5_wayStep_9 : decode cX5_wayStep 9 = .ok (.istore_n 3, 1) := by decide +kernel
theorem dX5_wayStep_10 : decode cX5_wayStep 10 = .ok (.bipush (-9), 2) := by decide +kernel
theorem dX5_wayStep_12 : decode cX5_wayStep 12 = .ok (.istore 4, 2) := by decide +kernel
theorem dX5_wayStep_14 : decode cX5_wayStep 14 = .ok (.iconst 0, 1) := by decide +kernel
theorem dX5_wayStep_15 : decode cX5_wayStep 15 = .ok (.istore 5, 2) := by decide +kernel
theorem dX5_wayStep_17 : decode cX5_wayStep 17 = .ok (.iload 5, 2) := by decide +kernel
theorem dX5_wayStep_19 : decode cX5_wayStep 19 = .ok (.iload_n 1, 1) := by decide +kernel
theorem dX5_wayStep_20 : decode cX5_wayStep 20 = .ok (.if_icmp .gt 85, 3) := by decide +kernel
theorem dX5_wayStep_23 : decode cX5_wayStep 23 = .ok (.aload_n 0, 1) := by decide +kernel
theorem dX5_wayStep_24 : decode cX5_wayStep 24 = .ok (.iload_n 2, 1) := by decide +kernel
theorem dX5_wayStep_25 : decode cX5_wayStep 25 = .ok (.iload_n 3, 1) := by decide +kernel
theorem dX5_wayStep_26 : decode cX5_wayStep 26 = .ok (.invokevirtual 212, 3) := by decide +kernel
theorem dX5_wayStep_29 : decode cX5_wayStep 29 = .ok (.istore 6, 2) := by decide +kernel
theorem dX5_wayStep_31 : decode cX5_wayStep 31 = .ok (.bipush (-9), 2) := by decide +kernel
theorem dX5_wayStep_33 : decode cX5_wayStep 33 = .ok (.istore 4, 2) := by decide +kernel
theorem dX5_wayStep_35 : decode cX5_wayStep 35 = .ok (.iconst 3, 1) := by decide +kernel
theorem dX5_wayStep_36 : decode cX5_wayStep 36 = .ok (.istore 7, 2) := by decide +kernel
theorem dX5_wayStep_38 : decode cX5_wayStep 38 = .ok (.iload 7, 2) := by decide +kernel
theorem dX5_wayStep_40 : decode cX5_wayStep 40 = .ok (.ifCond .lt 43, 3) := by decide +kernel
theorem dX5_wayStep_43 : decode cX5_wayStep 43 = .ok (.aload_n 0, 1) := by decide +kernel
theorem dX5_wayStep_44 : decode cX5_wayStep 44 = .ok (.iload_n 2, 1) := by decide +kernel
theorem dX5_wayStep_45 : decode cX5_wayStep 45 = .ok (.iload 7, 2) := by decide +kernel
theorem dX5_wayStep_47 : decode cX5_wayStep 47 = .ok (.invokestatic 175, 3) := by decide +kernel
theorem dX5_wayStep_50 : decode cX5_wayStep 50 = .ok (.iadd, 1) := by decide +kernel
theorem dX5_wayStep_51 : decode cX5_wayStep 51 = .ok (.iload_n 3, 1) := by decide +kernel
theorem dX5_wayStep_52 : decode cX5_wayStep 52 = .ok (.iload 7, 2) := by decide +kernel
theorem dX5_wayStep_54 : decode cX5_wayStep 54 = .ok (.invokestatic 178, 3) := by decide +kernel
theorem dX5_wayStep_57 : decode cX5_wayStep 57 = .ok (.iadd, 1) := by decide +kernel
theorem dX5_wayStep_58 : decode cX5_wayStep 58 = .ok (.invokevirtual 212, 3) := by decide +kernel
theorem dX5_wayStep_61 : decode cX5_wayStep 61 = .ok (.iload 6, 2) := by decide +kernel
theorem dX5_wayStep_63 : decode cX5_wayStep 63 = .ok (.iconst 1, 1) := by decide +kernel
theorem dX5_wayStep_64 : decode cX5_wayStep 64 = .ok (.isub, 1) := by decide +kernel
theorem dX5_wayStep_65 : decode cX5_wayStep 65 = .ok (.if_icmp .ne 8, 3) := by decide +kernel
theorem dX5_wayStep_68 : decode cX5_wayStep 68 = .ok (.iload 7, 2) := by decide +kernel
theorem dX5_wayStep_70 : decode cX5_wayStep 70 = .ok (.goto 5, 3) := by decide +kernel
theorem dX5_wayStep_73 : decode cX5_wayStep 73 = .ok (.iload 4, 2) := by decide +kernel
theorem dX5_wayStep_75 : decode cX5_wayStep 75 = .ok (.istore 4, 2) := by decide +kernel
theorem dX5_wayStep_77 : decode cX5_wayStep 77 = .ok (.iinc 7 (-1), 3) := by decide +kernel
theorem dX5_wayStep_80 : decode cX5_wayStep 80 = .ok (.goto (-42), 3) := by decide +kernel
theorem dX5_wayStep_83 : decode cX5_wayStep 83 = .ok (.iload_n 2, 1) := by decide +kernel
theorem dX5_wayStep_84 : decode cX5_wayStep 84 = .ok (.iload 4, 2) := by decide +kernel
theorem dX5_wayStep_86 : decode cX5_wayStep 86 = .ok (.invokestatic 175, 3) := by decide +kernel
theorem dX5_wayStep_89 : decode cX5_wayStep 89 = .ok (.iadd, 1) := by decide +kernel
theorem dX5_wayStep_90 : decode cX5_wayStep 90 = .ok (.istore_n 2, 1) := by decide +kernel
theorem dX5_wayStep_91 : decode cX5_wayStep 91 = .ok (.iload_n 3, 1) := by decide +kernel
theorem dX5_wayStep_92 : decode cX5_wayStep 92 = .ok (.iload 4, 2) := by decide +kernel
theorem dX5_wayStep_94 : decode cX5_wayStep 94 = .ok (.invokestatic 178, 3) := by decide +kernel
theorem dX5_wayStep_97 : decode cX5_wayStep 97 = .ok (.iadd, 1) := by decide +kernel
theorem dX5_wayStep_98 : decode cX5_wayStep 98 = .ok (.istore_n 3, 1) := by decide +kernel
theorem dX5_wayStep_99 : decode cX5_wayStep 99 = .ok (.iinc 5 1, 3) := by decide +kernel
theorem dX5_wayStep_102 : decode cX5_wayStep 102 = .ok (.goto (-85), 3) := by decide +kernel
theorem dX5_wayStep_105 : decode cX5_wayStep 105 = .ok (.iload 4, 2) := by decide +kernel
theorem dX5_wayStep_107 : decode cX5_wayStep 107 = .ok (.ireturn, 1) := by decide +kernel
set_option maxRecDepth 20000 in
theorem tkX5_wayStep : ∀ q ∈ tbX5_wayStep, xOk (Zm false yX5_wayStep.name) RX5 cX5_wayStep 8 (some .int) pT pY q :=
  fa_c (ok_p (xg_load _ _ _) (x_aload_n dX5_wayStep_0 rfl)) <|
  fa_c (ok_p (xg_getf _ _ _) (x_getf (C := RX5) (T := TX5) (N := 34) rfl (by decide) inX5 kw682 dX5_wayStep_1)) <|
  fa_c (ok_p (xg_store _ _ _) (x_istore_n dX5_wayStep_4 rfl)) <|
  fa_c (ok_p (xg_load _ _ _) (x_aload_n dX5_wayStep_5 rfl)) <|
  fa_c (ok_p (xg_getf _ _ _) (x_getf (C := RX5) (T := TX5) (N := 34) rfl (by decide) inX5 kw683 dX5_wayStep_6)) <|
  fa_c (ok_p (xg_store _ _ _) (x_istore_n dX5_wayStep_9 rfl)) <|
  fa_c (ok_p (xg_st _ _) (x_bipush dX5_wayStep_10 rfl)) <|
  fa_c (ok_p (xg_store _ _ _) (x_istore dX5_wayStep_12)) <|
  fa_c (ok_p (xg_st _ _) (x_iconst dX5_wayStep_14 rfl)) <|
  fa_c (ok_p (xg_store _ _ _) (x_istore dX5_wayStep_15)) <|
  fa_c (ok_p (xg_clr _ (xg_load _ _ _)) (x_clr _ (x_iload dX5_wayStep_17))) <|
  fa_c (ok_p (xg_load _ _ _) (x_iload_n dX5_wayStep_19 rfl)) <|
  fa_c (ok_p (xg_icmp _ _ _) (x_icmp_gt dX5_wayStep_20 (by decide))) <|
  fa_c (ok_p (xg_load _ _ _) (x_aload_n dX5_wayStep_23 rfl)) <|
  fa_c (ok_p (xg_load _ _ _) (x_iload_n dX5_wayStep_24 rfl)) <|
  fa_c (ok_p (xg_load _ _ _) (x_iload_n dX5_wayStep_25 rfl)) <|
  fa_c (ok_c pT_159 pY_159 (x_callV (n := 2) (C := RX5) (T := TX5) (N := 34) rfl rfl kw940 kw942 kw47 kw63 kw943 (by decide +kernel) dX5_wayStep_26)) <|
  fa_c (ok_p (xg_store _ _ _) (x_istore dX5_wayStep_29)) <|
  fa_c (ok_p (xg_st _ _) (x_bipush dX5_wayStep_31 rfl)) <|
  fa_c (ok_p (xg_store _ _ _) (x_istore dX5_wayStep_33)) <|
  fa_c (ok_p (xg_st _ _) (x_iconst dX5_wayStep_35 rfl)) <|
  fa_c (ok_p (xg_store _ _ _) (x_istore dX5_wayStep_36)) <|
  fa_c (ok_p (xg_load _ _ _) (x_iload dX5_wayStep_38)) <|
  fa_c (ok_p (xg_if _ _ _) (x_if_lt dX5_wayStep_40 (by decide))) <|
  fa_c (ok_p (xg_load _ _ _) (x_aload_n dX5_wayStep_43 rfl)) <|
  fa_c (ok_p (xg_load _ _ _) (x_iload_n dX5_wayStep_44 rfl)) <|
  fa_c (ok_p (xg_load _ _ _) (x_iload dX5_wayStep_45)) <|
  fa_c (ok_c pT_150 pY_150 (x_callS (n := 1) rfl kw895 kw896 kw63 kw897 (by decide +kernel) dX5_wayStep_47)) <|
  fa_c (ok_p (xg_st _ _) (x_iadd dX5_wayStep_50)) <|
  fa_c (ok_p (xg_load _ _ _) (x_iload_n dX5_wayStep_51 rfl)) <|
  fa_c (ok_p (xg_load _ _ _) (x_iload dX5_wayStep_52)) <|
  fa_c (ok_c pT_151 pY_151 (x_callS (n := 1) rfl kw898 kw899 kw63 kw900 (by decide +kernel) dX5_wayStep_54)) <|
  fa_c (ok_p (xg_st _ _) (x_iadd dX5_wayStep_57)) <|
  fa_c (ok_c pT_159 pY_159 (x_callV (n := 2) (C := RX5) (T := TX5) (N := 34) rfl rfl kw940 kw942 kw47 kw63 kw943 (by decide +kernel) dX5_wayStep_58)) <|
  fa_c (ok_p (xg_load _ _ _) (x_iload dX5_wayStep_61)) <|
  fa_c (ok_p (xg_st _ _) (x_iconst dX5_wayStep_63 rfl)) <|
  fa_c (ok_p (xg_st _ _) (x_isub dX5_wayStep_64)) <|
  fa_c (ok_p (xg_icmp _ _ _) (x_icmp_ne dX5_wayStep_65 (by decide))) <|
  fa_c (ok_p (xg_load _ _ _) (x_iload dX5_wayStep_68)) <|
  fa_c (ok_p (xg_st _ _) (x_goto dX5_wayStep_70 (by decide))) <|
  fa_c (ok_p (xg_load _ _ _) (x_iload dX5_wayStep_73)) <|
  fa_c (ok_p (xg_store _ _ _) (x_istore dX5_wayStep_75)) <|
  fa_c (ok_p (xg_iinc _ _ _) (x_iinc dX5_wayStep_77 rfl)) <|
  fa_c (ok_p (xg_st _ _) (x_goto dX5_wayStep_80 (by decide))) <|
  fa_c (ok_p (xg_load _ _ _) (x_iload_n dX5_wayStep_83 rfl)) <|
  fa_c (ok_p (xg_load _ _ _) (x_iload dX5_wayStep_84)) <|
  fa_c (ok_c pT_150 pY_150 (x_callS (n := 1) rfl kw895 kw896 kw63 kw897 (by decide +kernel) dX5_wayStep_86)) <|
  fa_c (ok_p (xg_st _ _) (x_iadd dX5_wayStep_89)) <|
  fa_c (ok_p (xg_store _ _ _) (x_istore_n dX5_wayStep_90 rfl)) <|
  fa_c (ok_p (xg_load _ _ _) (x_iload_n dX5_wayStep_91 rfl)) <|
  fa_c (ok_p (xg_load _ _ _) (x_iload dX5_wayStep_92)) <|
  fa_c (ok_c pT_151 pY_151 (x_callS (n := 1) rfl kw898 kw899 kw63 kw900 (by decide +kernel) dX5_wayStep_94)) <|
  fa_c (ok_p (xg_st _ _) (x_iadd dX5_wayStep_97)) <|
  fa_c (ok_p (xg_store _ _ _) (x_istore_n dX5_wayStep_98 rfl)) <|
  fa_c (ok_p (xg_iinc _ _ _) (x_iinc dX5_wayStep_99 rfl)) <|
  fa_c (ok_p (xg_st _ _) (x_goto dX5_wayStep_102 (by decide))) <|
  fa_c (ok_p (xg_load _ _ _) (x_iload dX5_wayStep_105)) <|
  fa_c (ok_r ⟨rfl, dX5_wayStep_107⟩) <|
  fa_n
theorem dX5_way_0 : decode cX5_way 0 = .ok (.aload_n 0, 1) := by decide +kernel
theorem dX5_way_1 : decode cX5_way 1 = .ok (.iload_n 1, 1) := by decide +kernel
theorem dX5_way_2 : decode cX5_way 2 = .ok (.invokevirtual 166, 3) := by decide +kernel
theorem dX5_way_5 : decode cX5_way 5 = .ok (.ifCond .eq 5, 3) := by decide +kernel
theorem dX5_way_8 : decode cX5_way 8 = .ok (.iconst (-1), 1) := by decide +kernel
theorem dX5_way_9 : decode cX5_way 9 = .ok (.ireturn, 1) := by decide +kernel
theorem dX5_way_10 : decode cX5_way 10 = .ok (.iload_n 2, 1) := by decide +kernel
theorem dX5_way_11 : decode cX5_way 11 = .ok (.i2l, 1) := by decide +kernel
theorem dX5_way_12 : decode cX5_way 12 = .ok (.ldc2_w 222, 3) := by decide +kernel
theorem dX5_way_15 : decode cX5_way 15 = .ok (.ldc2_w 169, 3) := by decide +kernel
theorem dX5_way_18 : decode cX5_way 18 = .ok (.invokestatic 65, 3) := by decide +kernel
theorem dX5_way_21 : decode cX5_way 21 = .ok (.ifCond .ne 6, 3) := by decide +kernel
theorem dX5_way_24 : decode cX5_way 24 = .ok (.bipush (-2), 2) := by decide +kernel
theorem dX5_way_26 : decode cX5_way 26 = .ok (.ireturn, 1) := by decide +kernel
theorem dX5_way_27 : decode cX5_way 27 = .ok (.aload_n 0, 1) := by decide +kernel
theorem dX5_way_28 : decode cX5_way 28 = .ok (.iload_n 1, 1) := by decide +kernel
theorem dX5_way_29 : decode cX5_way 29 = .ok (.invokevirtual 224, 3) := by decide +kernel
theorem dX5_way_32 : decode cX5_way 32 = .ok (.aload_n 0, 1) := by decide +kernel
theorem dX5_way_33 : decode cX5_way 33 = .ok (.aload_n 0, 1) := by decide +kernel
theorem dX5_way_34 : decode cX5_way 34 = .ok (.getfield 132, 3) := by decide +kernel
theorem dX5_way_37 : decode cX5_way 37 = .ok (.aload_n 0, 1) := by decide +kernel
theorem dX5_way_38 : decode cX5_way 38 = .ok (.getfield 135, 3) := by decide +kernel
theorem dX5_way_41 : decode cX5_way 41 = .ok (.invokevirtual 212, 3) := by decide +kernel
theorem dX5_way_44 : decode cX5_way 44 = .ok (.istore_n 3, 1) := by decide +kernel
theorem dX5_way_45 : decode cX5_way 45 = .ok (.iload_n 3, 1) := by decide +kernel
theorem dX5_way_46 : decode cX5_way 46 = .ok (.ifCond .lt 7, 3) := by decide +kernel
theorem dX5_way_49 : decode cX5_way 49 = .ok (.iload_n 2, 1) := by decide +kernel
theorem dX5_way_50 : decode cX5_way 50 = .ok (.ifCond .ge 7, 3) := by decide +kernel
theorem dX5_way_53 : decode cX5_way 53 = .ok (.iload_n 3, 1) := by decide +kernel
theorem dX5_way_54 : decode cX5_way 54 = .ok (.goto 18, 3) := by decide +kernel
theorem dX5_way_57 : decode cX5_way 57 = .ok (.iload_n 2, 1) := by decide +kernel
theorem dX5_way_58 : decode cX5_way 58 = .ok (.iload_n 3, 1) := by decide +kernel
theorem dX5_way_59 : decode cX5_way 59 = .ok (.if_icmp .ge 11, 3) := by decide +kernel
theorem dX5_way_62 : decode cX5_way 62 = .ok (.aload_n 0, 1) := by decide +kernel
theorem dX5_way_63 : decode cX5_way 63 = .ok (.iload_n 2, 1) := by decide +kernel
theorem dX5_way_64 : decode cX5_way 64 = .ok (.invokevirtual 228, 3) := by decide +kernel
theorem dX5_way_67 : decode cX5_way 67 = .ok (.goto 5, 3) := by decide +kernel
theorem dX5_way_70 : decode cX5_way 70 = .ok (.bipush (-9), 2) := by decide +kernel
theorem dX5_way_72 : decode cX5_way 72 = .ok (.ireturn, 1) := by decide +kernel
set_option maxRecDepth 20000 in
theorem tkX5_way : ∀ q ∈ tbX5_way, xOk (Zm false yX5_way.name) RX5 cX5_way 4 (some .int) pT pY q :=
  fa_c (ok_p (xg_load _ _ _) (x_aload_n dX5_way_0 rfl)) <|
  fa_c (ok_p (xg_load _ _ _) (x_iload_n dX5_way_1 rfl)) <|
  fa_c (ok_c pT_131 pY_131 (x_callV (n := 1) (C := RX5) (T := TX5) (N := 34) rfl rfl kw855 kw857 kw38 kw63 kw858 (by decide +kernel) dX5_way_2)) <|
  fa_c (ok_p (xg_if _ _ _) (x_if_eq dX5_way_5 (by decide))) <|
  fa_c (ok_p (xg_st _ _) (x_iconst dX5_way_8 rfl)) <|
  fa_c (ok_r ⟨rfl, dX5_way_9⟩) <|
  fa_c (ok_p (xg_load _ _ _) (x_iload_n dX5_way_10 rfl)) <|
  fa_c (ok_p (xg_st _ _) (x_i2l dX5_way_11)) <|
  fa_c (ok_p (xg_st _ _) (x_ldc2 dX5_way_12 kw927)) <|
  fa_c (ok_p (xg_st _ _) (x_ldc2 dX5_way_15 kw863)) <|
  fa_c (ok_c pT_122 pY_122 (x_callS (n := 3) rfl kw789 kw790 kw63 kw791 (by decide +kernel) dX5_way_18)) <|
  fa_c (ok_p (xg_if _ _ _) (x_if_ne dX5_way_21 (by decide))) <|
  fa_c (ok_p (xg_st _ _) (x_bipush dX5_way_24 rfl)) <|
  fa_c (ok_r ⟨rfl, dX5_way_26⟩) <|
  fa_c (ok_p (xg_load _ _ _) (x_aload_n dX5_way_27 rfl)) <|
  fa_c (ok_p (xg_load _ _ _) (x_iload_n dX5_way_28 rfl)) <|
  fa_c (ok_c pT_161 pY_161 (x_callV (n := 1) (C := RX5) (T := TX5) (N := 34) rfl rfl kw928 kw930 kw44 kw63 kw931 (by decide +kernel) dX5_way_29)) <|
  fa_c (ok_p (xg_load _ _ _) (x_aload_n dX5_way_32 rfl)) <|
  fa_c (ok_p (xg_load _ _ _) (x_aload_n dX5_way_33 rfl)) <|
  fa_c (ok_p (xg_getf _ _ _) (x_getf (C := RX5) (T := TX5) (N := 34) rfl (by decide) inX5 kw682 dX5_way_34)) <|
  fa_c (ok_p (xg_load _ _ _) (x_aload_n dX5_way_37 rfl)) <|
  fa_c (ok_p (xg_getf _ _ _) (x_getf (C := RX5) (T := TX5) (N := 34) rfl (by decide) inX5 kw683 dX5_way_38)) <|
  fa_c (ok_c pT_159 pY_159 (x_callV (n := 2) (C := RX5) (T := TX5) (N := 34) rfl rfl kw940 kw942 kw47 kw63 kw943 (by decide +kernel) dX5_way_41)) <|
  fa_c (ok_p (xg_store _ _ _) (x_istore_n dX5_way_44 rfl)) <|
  fa_c (ok_p (xg_load _ _ _) (x_iload_n dX5_way_45 rfl)) <|
  fa_c (ok_p (xg_if _ _ _) (x_if_lt dX5_way_46 (by decide))) <|
  fa_c (ok_p (xg_load _ _ _) (x_iload_n dX5_way_49 rfl)) <|
  fa_c (ok_p (xg_if _ _ _) (x_if_ge dX5_way_50 (by decide))) <|
  fa_c (ok_p (xg_load _ _ _) (x_iload_n dX5_way_53 rfl)) <|
  fa_c (ok_p (xg_st _ _) (x_goto dX5_way_54 (by decide))) <|
  fa_c (ok_p (xg_load _ _ _) (x_iload_n dX5_way_57 rfl)) <|
  fa_c (ok_p (xg_load _ _ _) (x_iload_n dX5_way_58 rfl)) <|
  fa_c (ok_p (xg_icmp _ _ _) (x_icmp_ge dX5_way_59 (by decide))) <|
  fa_c (ok_p (xg_load _ _ _) (x_aload_n dX5_way_62 rfl)) <|
  fa_c (ok_p (xg_load _ _ _) (x_iload_n dX5_way_63 rfl)) <|
  fa_c (ok_c pT_162 pY_162 (x_callV (n := 1) (C := RX5) (T := TX5) (N := 34) rfl rfl kw944 kw946 kw48 kw63 kw947 (by decide +kernel) dX5_way_64)) <|
  fa_c (ok_p (xg_st _ _) (x_goto dX5_way_67 (by decide))) <|
  fa_c (ok_p (xg_st _ _) (x_bipush dX5_way_70 rfl)) <|
  fa_c (ok_r ⟨rfl, dX5_way_72⟩) <|
  fa_n
theorem dX5_seenBy_0 : decode cX5_seenBy 0 = .ok (.iconst 1, 1) := by decide +kernel
theorem dX5_seenBy_1 : decode cX5_seenBy 1 = .ok (.istore_n 3, 1) := by decide +kernel
theorem dX5_seenBy_2 : decode cX5_seenBy 2 = .ok (.iload_n 2, 1) := by decide +kernel
theorem dX5_seenBy_3 : decode cX5_seenBy 3 = .ok (.iconst 1, 1) := by decide +kernel
theorem dX5_seenBy_4 : decode cX5_seenBy 4 = .ok (.isub, 1) := by decide +kernel
theorem dX5_seenBy_5 : decode cX5_seenBy 5 = .ok (.istore 4, 2) := by decide +kernel
theorem dX5_seenBy_7 : decode cX5_seenBy 7 = .ok (.iload 4, 2) := by decide +kernel
theorem dX5_seenBy_9 : decode cX5_seenBy 9 = .ok (.ifCond .lt 26, 3) := by decide +kernel
theorem dX5_seenBy_12 : decode cX5_seenBy 12 = .ok (.iload_n 3, 1) := by decide +kernel
theorem dX5_seenBy_13 : decode cX5_seenBy 13 = .ok (.ifCond .eq 22, 3) := by decide +kernel
theorem dX5_seenBy_16 : decode cX5_seenBy 16 = .ok (.aload_n 0, 1) := by decide +kernel
theorem dX5_seenBy_17 : decode cX5_seenBy 17 = .ok (.iload_n 1, 1) := by decide +kernel
theorem dX5_seenBy_18 : decode cX5_seenBy 18 = .ok (.iconst 2, 1) := by decide +kernel
theorem dX5_seenBy_19 : decode cX5_seenBy 19 = .ok (.iload 4, 2) := by decide +kernel
theorem dX5_seenBy_21 : decode cX5_seenBy 21 = .ok (.imul, 1) := by decide +kernel
theorem dX5_seenBy_22 : decode cX5_seenBy 22 = .ok (.ishr, 1) := by decide +kernel
theorem dX5_seenBy_23 : decode cX5_seenBy 23 = .ok (.iconst 3, 1) := by decide +kernel
theorem dX5_seenBy_24 : decode cX5_seenBy 24 = .ok (.iand, 1) := by decide +kernel
theorem dX5_seenBy_25 : decode cX5_seenBy 25 = .ok (.invokevirtual 186, 3) := by decide +kernel
theorem dX5_seenBy_28 : decode cX5_seenBy 28 = .ok (.istore_n 3, 1) := by decide +kernel
theorem dX5_seenBy_29 : decode cX5_seenBy 29 = .ok (.iinc 4 (-1), 3) := by decide +kernel
theorem dX5_seenBy_32 : decode cX5_seenBy 32 = .ok (.goto (-25), 3) := by decide +kernel
theorem dX5_seenBy_35 : decode cX5_seenBy 35 = .ok (.iload_n 3, 1) := by decide +kernel
theorem dX5_seenBy_36 : decode cX5_seenBy 36 = .ok (.ifCond .eq 21, 3) := by decide +kernel
theorem dX5_seenBy_39 : decode cX5_seenBy 39 = .ok (.aload_n 0, 1) := by decide +kernel
theorem dX5_seenBy_40 : decode cX5_seenBy 40 = .ok (.getfield 147, 3) := by decide +kernel
theorem dX5_seenBy_43 : decode cX5_seenBy 43 = .ok (.invokestatic 171, 3) := by decide +kernel
theorem dX5_seenBy_46 : decode cX5_seenBy 46 = .ok (.aload_n 0, 1) := by decide +kernel
theorem dX5_seenBy_47 : decode cX5_seenBy 47 = .ok (.getfield 195, 3) := by decide +kernel
theorem dX5_seenBy_50 : decode cX5_seenBy 50 = .ok (.invokestatic 171, 3) := by decide +kernel
theorem dX5_seenBy_53 : decode cX5_seenBy 53 = .ok (.isub, 1) := by decide +kernel
theorem dX5_seenBy_54 : decode cX5_seenBy 54 = .ok (.goto 5, 3) := by decide +kernel
theorem dX5_seenBy_57 : decode cX5_seenBy 57 = .ok (.bipush (-9), 2) := by decide +kernel
theorem dX5_seenBy_59 : decode cX5_seenBy 59 = .ok (.istore 4, 2) := by decide +kernel
theorem dX5_seenBy_61 : decode cX5_seenBy 61 = .ok (.aload_n 0, 1) := by decide +kernel
theorem dX5_seenBy_62 : decode cX5_seenBy 62 = .ok (.invokevirtual 209, 3) := by decide +kernel
theorem dX5_seenBy_65 : decode cX5_seenBy 65 = .ok (.iload 4, 2) := by decide +kernel
theorem dX5_seenBy_67 : decode cX5_seenBy 67 = .ok (.ireturn, 1) := by decide +kernel
set_option maxRecDepth 20000 in
theorem tkX5_seenBy : ∀ q ∈ tbX5_seenBy, xOk (Zm false yX5_seenBy.name) RX5 cX5_seenBy 5 (some .int) pT pY q :=
  fa_c (ok_p (xg_st _ _) (x_iconst dX5_seenBy_0 rfl)) <|
  fa_c (ok_p (xg_store _ _ _) (x_istore_n dX5_seenBy_1 rfl)) <|
  fa_c (ok_p (xg_load _ _ _) (x_iload_n dX5_seenBy_2 rfl)) <|
  fa_c (ok_p (xg_st _ _) (x_iconst dX5_seenBy_3 rfl)) <|
  fa_c (ok_p (xg_st _ _) (x_isub dX5_seenBy_4)) <|
  fa_c (ok_p (xg_store _ _ _) (x_istore dX5_seenBy_5)) <|
  fa_c (ok_p (xg_clr _ (xg_load _ _ _)) (x_clr _ (x_iload dX5_seenBy_7))) <|
  fa_c (ok_p (xg_if _ _ _) (x_if_lt dX5_seenBy_9 (by decide))) <|
  fa_c (ok_p (xg_load _ _ _) (x_iload_n dX5_seenBy_12 rfl)) <|
  fa_c (ok_p (xg_if _ _ _) (x_if_eq dX5_seenBy_13 (by decide))) <|
  fa_c (ok_p (xg_load _ _ _) (x_aload_n dX5_seenBy_16 rfl)) <|
  fa_c (ok_p (xg_load _ _ _) (x_iload_n dX5_seenBy_17 rfl)) <|
  fa_c (ok_p (xg_st _ _) (x_iconst dX5_seenBy_18 rfl)) <|
  fa_c (ok_p (xg_load _ _ _) (x_iload dX5_seenBy_19)) <|
  fa_c (ok_p (xg_st _ _) (x_imul dX5_seenBy_21)) <|
  fa_c (ok_p (xg_st _ _) (x_ishr dX5_seenBy_22)) <|
  fa_c (ok_p (xg_st _ _) (x_iconst dX5_seenBy_23 rfl)) <|
  fa_c (ok_p (xg_st _ _) (x_iand dX5_seenBy_24)) <|
  fa_c (ok_c pT_152 pY_152 (x_callV (n := 1) (C := RX5) (T := TX5) (N := 34) rfl rfl kw891 kw893 kw39 kw63 kw894 (by decide +kernel) dX5_seenBy_25)) <|
  fa_c (ok_p (xg_store _ _ _) (x_istore_n dX5_seenBy_28 rfl)) <|
  fa_c (ok_p (xg_iinc _ _ _) (x_iinc dX5_seenBy_29 rfl)) <|
  fa_c (ok_p (xg_st _ _) (x_goto dX5_seenBy_32 (by decide))) <|
  fa_c (ok_p (xg_load _ _ _) (x_iload_n dX5_seenBy_35 rfl)) <|
  fa_c (ok_p (xg_if _ _ _) (x_if_eq dX5_seenBy_36 (by decide))) <|
  fa_c (ok_p (xg_load _ _ _) (x_aload_n dX5_seenBy_39 rfl)) <|
  fa_c (ok_p (xg_getf _ _ _) (x_getf (C := RX5) (T := TX5) (N := 34) rfl (by decide) inX5 kw686 dX5_seenBy_40)) <|
  fa_c (ok_c pT_125 pY_125 (x_callS (n := 1) rfl kw872 kw873 kw63 kw874 (by decide +kernel) dX5_seenBy_43)) <|
  fa_c (ok_p (xg_load _ _ _) (x_aload_n dX5_seenBy_46 rfl)) <|
  fa_c (ok_p (xg_getf _ _ _) (x_getf (C := RX5) (T := TX5) (N := 34) rfl (by decide) inX5 kw701 dX5_seenBy_47)) <|
  fa_c (ok_c pT_125 pY_125 (x_callS (n := 1) rfl kw872 kw873 kw63 kw874 (by decide +kernel) dX5_seenBy_50)) <|
  fa_c (ok_p (xg_st _ _) (x_isub dX5_seenBy_53)) <|
  fa_c (ok_p (xg_st _ _) (x_goto dX5_seenBy_54 (by decide))) <|
  fa_c (ok_p (xg_st _ _) (x_bipush dX5_seenBy_57 rfl)) <|
  fa_c (ok_p (xg_store _ _ _) (x_istore dX5_seenBy_59)) <|
  fa_c (ok_p (xg_load _ _ _) (x_aload_n dX5_seenBy_61 rfl)) <|
  fa_c (ok_c pT_155 pY_155 (x_callV (n := 0) (C := RX5) (T := TX5) (N := 34) rfl rfl kw919 kw921 kw43 kw63 kw922 (by decide +kernel) dX5_seenBy_62)) <|
  fa_c (ok_p (xg_load _ _ _) (x_iload dX5_seenBy_65)) <|
  fa_c (ok_r ⟨rfl, dX5_seenBy_67⟩) <|
  fa_n
theorem dX5_most_0 : decode cX5_most 0 = .ok (.iload_n 1, 1) := by decide +kernel
theorem dX5_most_1 : decode cX5_most 1 = .ok (.i2l, 1) := by decide +kernel
theorem dX5_most_2 : decode cX5_most 2 = .ok (.lconst 1, 1) := by decide +kernel
theorem dX5_most_3 : decode cX5_most 3 = .ok (.ldc2_w 231, 3) := by decide +kernel
theorem dX5_most_6 : decode cX5_most 6 = .ok (.invokestatic 65, 3) := by decide +kernel
theorem dX5_most_9 : decode cX5_most 9 = .ok (.ifCond .eq 17, 3) := by decide +kernel
theorem dX5_most_12 : decode cX5_most 12 = .ok (.iload_n 2, 1) := by decide +kernel
theorem dX5_most_13 : decode cX5_most 13 = .ok (.i2l, 1) := by decide +kernel
theorem dX5_most_14 : decode cX5_most 14 = .ok (.ldc2_w 222, 3) := by decide +kernel
theorem dX5_most_17 : decode cX5_most 17 = .ok (.ldc2_w 200, 3) := by decide +kernel
theorem dX5_most_20 : decode cX5_most 20 = .ok (.invokestatic 65, 3) := by decide +kernel
theorem dX5_most_23 : decode cX5_most 23 = .ok (.ifCond .ne 6, 3) := by decide +kernel
theorem dX5_most_26 : decode cX5_most 26 = .ok (.bipush (-2), 2) := by decide +kernel
theorem dX5_most_28 : decode cX5_most 28 = .ok (.ireturn, 1) := by decide +kernel
theorem dX5_most_29 : decode cX5_most 29 = .ok (.aload_n 0, 1) := by decide +kernel
theorem dX5_most_30 : decode cX5_most 30 = .ok (.getfield 62, 3) := by decide +kernel
theorem dX5_most_33 : decode cX5_most 33 = .ok (.ifCond .ne 6, 3) := by decide +kernel
theorem dX5_most_36 : decode cX5_most 36 = .ok (.bipush (-3), 2) := by decide +kernel
theorem dX5_most_38 : decode cX5_most 38 = .ok (.ireturn, 1) := by decide +kernel
theorem dX5_most_39 : decode cX5_most 39 = .ok (.aload_n 0, 1) := by decide +kernel
theorem dX5_most_40 : decode cX5_most 40 = .ok (.invokevirtual 202, 3) := by decide +kernel
theorem dX5_most_43 : decode cX5_most 43 = .ok (.bipush (-9), 2) := by decide +kernel
theorem dX5_most_45 : decode cX5_most 45 = .ok (.istore_n 3, 1) := by decide +kernel
theorem dX5_most_46 : decode cX5_most 46 = .ok (.bipush (-9), 2) := by decide +kernel
theorem dX5_most_48 : decode cX5_most 48 = .ok (.istore 4, 2) := by decide +kernel
theorem dX5_most_50 : decode cX5_most 50 = .ok (.iconst 0, 1) := by decide +kernel
theorem dX5_most_51 : decode cX5_most 51 = .ok (.istore 5, 2) := by decide +kernel
theorem dX5_most_53 : decode cX5_most 53 = .ok (.iload 5, 2) := by decide +kernel
theorem dX5_most_55 : decode cX5_most 55 = .ok (.iconst 1, 1) := by decide +kernel
theorem dX5_most_56 : decode cX5_most 56 = .ok (.iconst 2, 1) := by decide +kernel
theorem dX5_most_57 : decode cX5_most 57 = .ok (.iload_n 1, 1) := by decide +kernel
theorem dX5_most_58 : decode cX5_most 58 = .ok (.imul, 1) := by decide +kernel
theorem dX5_most_59 : decode cX5_most 59 = .ok (.ishl, 1) := by decide +kernel
theorem dX5_most_60 : decode cX5_most 60 = .ok (.if_icmp .ge 48, 3) := by decide +kernel
theorem dX5_most_63 : decode cX5_most 63 = .ok (.aload_n 0, 1) := by decide +kernel
theorem dX5_most_64 : decode cX5_most 64 = .ok (.iload 5, 2) := by decide +kernel
theorem dX5_most_66 : decode cX5_most 66 = .ok (.iload_n 1, 1) := by decide +kernel
theorem dX5_most_67 : decode cX5_most 67 = .ok (.invokevirtual 233, 3) := by decide +kernel
theorem dX5_most_70 : decode cX5_most 70 = .ok (.istore 6, 2) := by decide +kernel
theorem dX5_most_72 : decode cX5_most 72 = .ok (.iload 6, 2) := by decide +kernel
theorem dX5_most_74 : decode cX5_most 74 = .ok (.iload 4, 2) := by decide +kernel
theorem dX5_most_76 : decode cX5_most 76 = .ok (.if_icmp .le 8, 3) := by decide +kernel
theorem dX5_most_79 : decode cX5_most 79 = .ok (.iload 5, 2) := by decide +kernel
theorem dX5_most_81 : decode cX5_most 81 = .ok (.goto 4, 3) := by decide +kernel
theorem dX5_most_84 : decode cX5_most 84 = .ok (.iload_n 3, 1) := by decide +kernel
theorem dX5_most_85 : decode cX5_most 85 = .ok (.istore_n 3, 1) := by decide +kernel
theorem dX5_most_86 : decode cX5_most 86 = .ok (.iload 6, 2) := by decide +kernel
theorem dX5_most_88 : decode cX5_most 88 = .ok (.iload 4, 2) := by decide +kernel
theorem dX5_most_90 : decode cX5_most 90 = .ok (.if_icmp .le 8, 3) := by decide +kernel
theorem dX5_most_93 : decode cX5_most 93 = .ok (.iload 6, 2) := by decide +kernel
theorem dX5_most_95 : decode cX5_most 95 = .ok (.goto 5, 3) := by decide +kernel
theorem dX5_most_98 : decode cX5_most 98 = .ok (.iload 4, 2) := by decide +kernel
theorem dX5_most_100 : decode cX5_most 100 = .ok (.istore 4, 2) := by decide +kernel
theorem dX5_most_102 : decode cX5_most 102 = .ok (.iinc 5 1, 3) := by decide +kernel
theorem dX5_most_105 : decode cX5_most 105 = .ok (.goto (-52), 3) := by decide +kernel
theorem dX5_most_108 : decode cX5_most 108 = .ok (.iload_n 2, 1) := by decide +kernel
theorem dX5_most_109 : decode cX5_most 109 = .ok (.ifCond .lt 7, 3) := by decide +kernel
theorem dX5_most_112 : decode cX5_most 112 = .ok (.iload_n 3, 1) := by decide +kernel
theorem dX5_most_113 : decode cX5_most 113 = .ok (.ifCond .ge 8, 3) := by decide +kernel
theorem dX5_most_116 : decode cX5_most 116 = .ok (.iload 4, 2) := by decide +kernel
theorem dX5_most_118 : decode cX5_most 118 = .ok (.goto 24, 3) := by decide +kernel
theorem dX5_most_121 : decode cX5_most 121 = .ok (.iload_n 2, 1) := by decide +kernel
theorem dX5_most_122 : decode cX5_most 122 = .ok (.iload_n 1, 1) := by decide +kernel
theorem dX5_most_123 : decode cX5_most 123 = .ok (.if_icmp .ge 17, 3) := by decide +kernel
theorem dX5_most_126 : decode cX5_most 126 = .ok (.iload_n 3, 1) := by decide +kernel
theorem dX5_most_127 : decode cX5_most 127 = .ok (.iconst 2, 1) := by decide +kernel
theorem dX5_most_128 : decode cX5_most 128 = .ok (.iload_n 1, 1) := by decide +kernel
theorem dX5_most_129 : decode cX5_most 129 = .ok (.iconst 1, 1) := by decide +kernel
theorem dX5_most_130 : decode cX5_most 130 = .ok (.isub, 1) := by decide +kernel
theorem dX5_most_131 : decode cX5_most 131 = .ok (.iload_n 2, 1) := by decide +kernel
theorem dX5_most_132 : decode cX5_most 132 = .ok (.isub, 1) := by decide +kernel
theorem dX5_most_133 : decode cX5_most 133 = .ok (.imul, 1) := by decide +kernel
theorem dX5_most_134 : decode cX5_most 134 = .ok (.ishr, 1) := by decide +kernel
theorem dX5_most_135 : decode cX5_most 135 = .ok (.iconst 3, 1) := by decide +kernel
theorem dX5_most_136 : decode cX5_most 136 = .ok (.iand, 1) := by decide +kernel
theorem dX5_most_137 : decode cX5_most 137 = .ok (.goto 5, 3) := by decide +kernel
theorem dX5_most_140 : decode cX5_most 140 = .ok (.bipush (-9), 2) := by decide +kernel
theorem dX5_most_142 : decode cX5_most 142 = .ok (.ireturn, 1) := by decide +kernel
set_option maxRecDepth 20000 in
theorem tkX5_most : ∀ q ∈ tbX5_most, xOk (Zm false yX5_most.name) RX5 cX5_most 7 (some .int) pT pY q :=
  fa_c (ok_p (xg_load _ _ _) (x_iload_n dX5_most_0 rfl)) <|
  fa_c (ok_p (xg_st _ _) (x_i2l dX5_most_1)) <|
  fa_c (ok_p (xg_st _ _) (x_lconst dX5_most_2 rfl)) <|
  fa_c (ok_p (xg_st _ _) (x_ldc2 dX5_most_3 kw952)) <|
  fa_c (ok_c pT_122 pY_122 (x_callS (n := 3) rfl kw789 kw790 kw63 kw791 (by decide +kernel) dX5_most_6)) <|
  fa_c (ok_p (xg_if _ _ _) (x_if_eq dX5_most_9 (by decide))) <|
  fa_c (ok_p (xg_load _ _ _) (x_iload_n dX5_most_12 rfl)) <|
  fa_c (ok_p (xg_st _ _) (x_i2l dX5_most_13)) <|
  fa_c (ok_p (xg_st _ _) (x_ldc2 dX5_most_14 kw927)) <|
  fa_c (ok_p (xg_st _ _) (x_ldc2 dX5_most_17 kw910)) <|
  fa_c (ok_c pT_122 pY_122 (x_callS (n := 3) rfl kw789 kw790 kw63 kw791 (by decide +kernel) dX5_most_20)) <|
  fa_c (ok_p (xg_if _ _ _) (x_if_ne dX5_most_23 (by decide))) <|
  fa_c (ok_p (xg_st _ _) (x_bipush dX5_most_26 rfl)) <|
  fa_c (ok_r ⟨rfl, dX5_most_28⟩) <|
  fa_c (ok_p (xg_load _ _ _) (x_aload_n dX5_most_29 rfl)) <|
  fa_c (ok_p (xg_getf _ _ _) (x_getf (C := RX5) (T := TX5) (N := 34) rfl (by decide) inX5 kw681 dX5_most_30)) <|
  fa_c (ok_p (xg_if _ _ _) (x_if_ne dX5_most_33 (by decide))) <|
  fa_c (ok_p (xg_st _ _) (x_bipush dX5_most_36 rfl)) <|
  fa_c (ok_r ⟨rfl, dX5_most_38⟩) <|
  fa_c (ok_p (xg_load _ _ _) (x_aload_n dX5_most_39 rfl)) <|
  fa_c (ok_c pT_154 pY_154 (x_callV (n := 0) (C := RX5) (T := TX5) (N := 34) rfl rfl kw911 kw913 kw41 kw63 kw914 (by decide +kernel) dX5_most_40)) <|
  fa_c (ok_p (xg_st _ _) (x_bipush dX5_most_43 rfl)) <|
  fa_c (ok_p (xg_store _ _ _) (x_istore_n dX5_most_45 rfl)) <|
  fa_c (ok_p (xg_st _ _) (x_bipush dX5_most_46 rfl)) <|
  fa_c (ok_p (xg_store _ _ _) (x_istore dX5_most_48)) <|
  fa_c (ok_p (xg_st _ _) (x_iconst dX5_most_50 rfl)) <|
  fa_c (ok_p (xg_store _ _ _) (x_istore dX5_most_51)) <|
  fa_c (ok_p (xg_clr _ (xg_load _ _ _)) (x_clr _ (x_iload dX5_most_53))) <|
  fa_c (ok_p (xg_st _ _) (x_iconst dX5_most_55 rfl)) <|
  fa_c (ok_p (xg_st _ _) (x_iconst dX5_most_56 rfl)) <|
  fa_c (ok_p (xg_load _ _ _) (x_iload_n dX5_most_57 rfl)) <|
  fa_c (ok_p (xg_st _ _) (x_imul dX5_most_58)) <|
  fa_c (ok_p (xg_st _ _) (x_ishl dX5_most_59)) <|
  fa_c (ok_p (xg_icmp _ _ _) (x_icmp_ge dX5_most_60 (by decide))) <|
  fa_c (ok_p (xg_load _ _ _) (x_aload_n dX5_most_63 rfl)) <|
  fa_c (ok_p (xg_load _ _ _) (x_iload dX5_most_64)) <|
  fa_c (ok_p (xg_load _ _ _) (x_iload_n dX5_most_66 rfl)) <|
  fa_c (ok_c pT_164 pY_164 (x_callV (n := 2) (C := RX5) (T := TX5) (N := 34) rfl rfl kw953 kw955 kw49 kw63 kw956 (by decide +kernel) dX5_most_67)) <|
  fa_c (ok_p (xg_store _ _ _) (x_istore dX5_most_70)) <|
  fa_c (ok_p (xg_load _ _ _) (x_iload dX5_most_72)) <|
  fa_c (ok_p (xg_load _ _ _) (x_iload dX5_most_74)) <|
  fa_c (ok_p (xg_icmp _ _ _) (x_icmp_le dX5_most_76 (by decide))) <|
  fa_c (ok_p (xg_load _ _ _) (x_iload dX5_most_79)) <|
  fa_c (ok_p (xg_st _ _) (x_goto dX5_most_81 (by decide))) <|
  fa_c (ok_p (xg_load _ _ _) (x_iload_n dX5_most_84 rfl)) <|
  fa_c (ok_p (xg_store _ _ _) (x_istore_n dX5_most_85 rfl)) <|
  fa_c (ok_p (xg_load _ _ _) (x_iload dX5_most_86)) <|
  fa_c (ok_p (xg_load _ _ _) (x_iload dX5_most_88)) <|
  fa_c (ok_p (xg_icmp _ _ _) (x_icmp_le dX5_most_90 (by decide))) <|
  fa_c (ok_p (xg_load _ _ _) (x_iload dX5_most_93)) <|
  fa_c (ok_p (xg_st _ _) (x_goto dX5_most_95 (by decide))) <|
  fa_c (ok_p (xg_load _ _ _) (x_iload dX5_most_98)) <|
  fa_c (ok_p (xg_store _ _ _) (x_istore dX5_most_100)) <|
  fa_c (ok_p (xg_iinc _ _ _) (x_iinc dX5_most_102 rfl)) <|
  fa_c (ok_p (xg_st _ _) (x_goto dX5_most_105 (by decide))) <|
  fa_c (ok_p (xg_load _ _ _) (x_iload_n dX5_most_108 rfl)) <|
  fa_c (ok_p (xg_if _ _ _) (x_if_lt dX5_most_109 (by decide))) <|
  fa_c (ok_p (xg_load _ _ _) (x_iload_n dX5_most_112 rfl)) <|
  fa_c (ok_p (xg_if _ _ _) (x_if_ge dX5_most_113 (by decide))) <|
  fa_c (ok_p (xg_load _ _ _) (x_iload dX5_most_116)) <|
  fa_c (ok_p (xg_st _ _) (x_goto dX5_most_118 (by decide))) <|
  fa_c (ok_p (xg_load _ _ _) (x_iload_n dX5_most_121 rfl)) <|
  fa_c (ok_p (xg_load _ _ _) (x_iload_n dX5_most_122 rfl)) <|
  fa_c (ok_p (xg_icmp _ _ _) (x_icmp_ge dX5_most_123 (by decide))) <|
  fa_c (ok_p (xg_load _ _ _) (x_iload_n dX5_most_126 rfl)) <|
  fa_c (ok_p (xg_st _ _) (x_iconst dX5_most_127 rfl)) <|
  fa_c (ok_p (xg_load _ _ _) (x_iload_n dX5_most_128 rfl)) <|
  fa_c (ok_p (xg_st _ _) (x_iconst dX5_most_129 rfl)) <|
  fa_c (ok_p (xg_st _ _) (x_isub dX5_most_130)) <|
  fa_c (ok_p (xg_load _ _ _) (x_iload_n dX5_most_131 rfl)) <|
  fa_c (ok_p (xg_st _ _) (x_isub dX5_most_132)) <|
  fa_c (ok_p (xg_st _ _) (x_imul dX5_most_133)) <|
  fa_c (ok_p (xg_st _ _) (x_ishr dX5_most_134)) <|
  fa_c (ok_p (xg_st _ _) (x_iconst dX5_most_135 rfl)) <|
  fa_c (ok_p (xg_st _ _) (x_iand dX5_most_136)) <|
  fa_c (ok_p (xg_st _ _) (x_goto dX5_most_137 (by decide))) <|
  fa_c (ok_p (xg_st _ _) (x_bipush dX5_most_140 rfl)) <|
  fa_c (ok_r ⟨rfl, dX5_most_142⟩) <|
  fa_n
theorem dX5_areBeside_0 : decode cX5_areBeside 0 = .ok (.iload_n 1, 1) := by decide +kernel
theorem dX5_areBeside_1 : decode cX5_areBeside 1 = .ok (.aload_n 0, 1) := by decide +kernel
theorem dX5_areBeside_2 : decode cX5_areBeside 2 = .ok (.getfield 69, 3) := by decide +kernel
theorem dX5_areBeside_5 : decode cX5_areBeside 5 = .ok (.irem, 1) := by decide +kernel
theorem dX5_areBeside_6 : decode cX5_areBeside 6 = .ok (.iload_n 2, 1) := by decide +kernel
theorem dX5_areBeside_7 : decode cX5_areBeside 7 = .ok (.aload_n 0, 1) := by decide +kernel
theorem dX5_areBeside_8 : decode cX5_areBeside 8 = .ok (.getfield 69, 3) := by decide +kernel
theorem dX5_areBeside_11 : decode cX5_areBeside 11 = .ok (.irem, 1) := by decide +kernel
theorem dX5_areBeside_12 : decode cX5_areBeside 12 = .ok (.isub, 1) := by decide +kernel
theorem dX5_areBeside_13 : decode cX5_areBeside 13 = .ok (.istore_n 3, 1) := by decide +kernel
theorem dX5_areBeside_14 : decode cX5_areBeside 14 = .ok (.iload_n 1, 1) := by decide +kernel
theorem dX5_areBeside_15 : decode cX5_areBeside 15 = .ok (.aload_n 0, 1) := by decide +kernel
theorem dX5_areBeside_16 : decode cX5_areBeside 16 = .ok (.getfield 69, 3) := by decide +kernel
theorem dX5_areBeside_19 : decode cX5_areBeside 19 = .ok (.idiv, 1) := by decide +kernel
theorem dX5_areBeside_20 : decode cX5_areBeside 20 = .ok (.iload_n 2, 1) := by decide +kernel
theorem dX5_areBeside_21 : decode cX5_areBeside 21 = .ok (.aload_n 0, 1) := by decide +kernel
theorem dX5_areBeside_22 : decode cX5_areBeside 22 = .ok (.getfield 69, 3) := by decide +kernel
theorem dX5_areBeside_25 : decode cX5_areBeside 25 = .ok (.idiv, 1) := by decide +kernel
theorem dX5_areBeside_26 : decode cX5_areBeside 26 = .ok (.isub, 1) := by decide +kernel
theorem dX5_areBeside_27 : decode cX5_areBeside 27 = .ok (.istore 4, 2) := by decide +kernel
theorem dX5_areBeside_29 : decode cX5_areBeside 29 = .ok (.iload_n 3, 1) := by decide +kernel
theorem dX5_areBeside_30 : decode cX5_areBeside 30 = .ok (.iload_n 3, 1) := by decide +kernel
theorem dX5_areBeside_31 : decode cX5_areBeside 31 = .ok (.imul, 1) := by decide +kernel
theorem dX5_areBeside_32 : decode cX5_areBeside 32 = .ok (.iload 4, 2) := by decide +kernel
theorem dX5_areBeside_34 : decode cX5_areBeside 34 = .ok (.iload 4, 2) := by decide +kernel
theorem dX5_areBeside_36 : decode cX5_areBeside 36 = .ok (.imul, 1) := by decide +kernel
theorem dX5_areBeside_37 : decode cX5_areBeside 37 = .ok (.iadd, 1) := by decide +kernel
theorem dX5_areBeside_38 : decode cX5_areBeside 38 = .ok (.iconst 1, 1) := by decide +kernel
theorem dX5_areBeside_39 : decode cX5_areBeside 39 = .ok (.if_icmp .ne 7, 3) := by decide +kernel
theorem dX5_areBeside_42 : decode cX5_areBeside 42 = .ok (.iconst 1, 1) := by decide +kernel
theorem dX5_areBeside_43 : decode cX5_areBeside 43 = .ok (.goto 4, 3) := by decide +kernel
theorem dX5_areBeside_46 : decode cX5_areBeside 46 = .ok (.iconst 0, 1) := by decide +kernel
theorem dX5_areBeside_47 : decode cX5_areBeside 47 = .ok (.ireturn, 1) := by decide +kernel
set_option maxRecDepth 20000 in
theorem tkX5_areBeside : ∀ q ∈ tbX5_areBeside, xOk (Zm false yX5_areBeside.name) RX5 cX5_areBeside 5 (some .boolean) pT pY q :=
  fa_c (ok_p (xg_load _ _ _) (x_iload_n dX5_areBeside_0 rfl)) <|
  fa_c (ok_p (xg_load _ _ _) (x_aload_n dX5_areBeside_1 rfl)) <|
  fa_c (ok_p (xg_getf _ _ _) (x_getf (C := RX5) (T := TX5) (N := 34) rfl (by decide) inX5 kw679 dX5_areBeside_2)) <|
  fa_c (ok_p (xg_st _ _) (x_irem dX5_areBeside_5)) <|
  fa_c (ok_p (xg_load _ _ _) (x_iload_n dX5_areBeside_6 rfl)) <|
  fa_c (ok_p (xg_load _ _ _) (x_aload_n dX5_areBeside_7 rfl)) <|
  fa_c (ok_p (xg_getf _ _ _) (x_getf (C := RX5) (T := TX5) (N := 34) rfl (by decide) inX5 kw679 dX5_areBeside_8)) <|
  fa_c (ok_p (xg_st _ _) (x_irem dX5_areBeside_11)) <|
  fa_c (ok_p (xg_st _ _) (x_isub dX5_areBeside_12)) <|
  fa_c (ok_p (xg_store _ _ _) (x_istore_n dX5_areBeside_13 rfl)) <|
  fa_c (ok_p (xg_load _ _ _) (x_iload_n dX5_areBeside_14 rfl)) <|
  fa_c (ok_p (xg_load _ _ _) (x_aload_n dX5_areBeside_15 rfl)) <|
  fa_c (ok_p (xg_getf _ _ _) (x_getf (C := RX5) (T := TX5) (N := 34) rfl (by decide) inX5 kw679 dX5_areBeside_16)) <|
  fa_c (ok_p (xg_st _ _) (x_idiv dX5_areBeside_19)) <|
  fa_c (ok_p (xg_load _ _ _) (x_iload_n dX5_areBeside_20 rfl)) <|
  fa_c (ok_p (xg_load _ _ _) (x_aload_n dX5_areBeside_21 rfl)) <|
  fa_c (ok_p (xg_getf _ _ _) (x_getf (C := RX5) (T := TX5) (N := 34) rfl (by decide) inX5 kw679 dX5_areBeside_22)) <|
  fa_c (ok_p (xg_st _ _) (x_idiv dX5_areBeside_25)) <|
  fa_c (ok_p (xg_st _ _) (x_isub dX5_areBeside_26)) <|
  fa_c (ok_p (xg_store _ _ _) (x_istore dX5_areBeside_27)) <|
  fa_c (ok_p (xg_load _ _ _) (x_iload_n dX5_areBeside_29 rfl)) <|
  fa_c (ok_p (xg_load _ _ _) (x_iload_n dX5_areBeside_30 rfl)) <|
  fa_c (ok_p (xg_st _ _) (x_imul dX5_areBeside_31)) <|
  fa_c (ok_p (xg_load _ _ _) (x_iload dX5_areBeside_32)) <|
  fa_c (ok_p (xg_load _ _ _) (x_iload dX5_areBeside_34)) <|
  fa_c (ok_p (xg_st _ _) (x_imul dX5_areBeside_36)) <|
  fa_c (ok_p (xg_st _ _) (x_iadd dX5_areBeside_37)) <|
  fa_c (ok_p (xg_st _ _) (x_iconst dX5_areBeside_38 rfl)) <|
  fa_c (ok_p (xg_icmp _ _ _) (x_icmp_ne dX5_areBeside_39 (by decide))) <|
  fa_c (ok_p (xg_st _ _) (x_iconst dX5_areBeside_42 rfl)) <|
  fa_c (ok_p (xg_st _ _) (x_goto dX5_areBeside_43 (by decide))) <|
  fa_c (ok_p (xg_st _ _) (x_iconst dX5_areBeside_46 rfl)) <|
  fa_c (ok_r ⟨rfl, dX5_areBeside_47⟩) <|
  fa_n
theorem dX5_flat_0 : decode cX5_flat 0 = .ok (.aload_n 0, 1) := by decide +kernel
theorem dX5_flat_1 : decode cX5_flat 1 = .ok (.iload_n 1, 1) := by decide +kernel
theorem dX5_flat_2 : decode cX5_flat 2 = .ok (.invokevirtual 166, 3) := by decide +kernel
theorem dX5_flat_5 : decode cX5_flat 5 = .ok (.ifCond .eq 5, 3) := by decide +kernel
theorem dX5_flat_8 : decode cX5_flat 8 = .ok (.iconst (-1), 1) := by decide +kernel
theorem dX5_flat_9 : decode cX5_flat 9 = .ok (.ireturn, 1) := by decide +kernel
theorem dX5_flat_10 : decode cX5_flat 10 = .ok (.lconst 1, 1) := by decide +kernel
theorem dX5_flat_11 : decode cX5_flat 11 = .ok (.iload_n 1, 1) := by decide +kernel
theorem dX5_flat_12 : decode cX5_flat 12 = .ok (.lshl, 1) := by decide +kernel
theorem dX5_flat_13 : decode cX5_flat 13 = .ok (.lstore_n 2, 1) := by decide +kernel
theorem dX5_flat_14 : decode cX5_flat 14 = .ok (.iconst 0, 1) := by decide +kernel
theorem dX5_flat_15 : decode cX5_flat 15 = .ok (.istore 4, 2) := by decide +kernel
theorem dX5_flat_17 : decode cX5_flat 17 = .ok (.iload 4, 2) := by decide +kernel
theorem dX5_flat_19 : decode cX5_flat 19 = .ok (.aload_n 0, 1) := by decide +kernel
theorem dX5_flat_20 : decode cX5_flat 20 = .ok (.getfield 69, 3) := by decide +kernel
theorem dX5_flat_23 : decode cX5_flat 23 = .ok (.aload_n 0, 1) := by decide +kernel
theorem dX5_flat_24 : decode cX5_flat 24 = .ok (.getfield 72, 3) := by decide +kernel
theorem dX5_flat_27 : decode cX5_flat 27 = .ok (.imul, 1) := by decide +kernel
theorem dX5_flat_28 : decode cX5_flat 28 = .ok (.if_icmp .ge 116, 3) := by decide +kernel
theorem dX5_flat_31 : decode cX5_flat 31 = .ok (.iconst 0, 1) := by decide +kernel
theorem dX5_flat_32 : decode cX5_flat 32 = .ok (.istore 5, 2) := by decide +kernel
theorem dX5_flat_34 : decode cX5_flat 34 = .ok (.iload 5, 2) := by decide +kernel
theorem dX5_flat_36 : decode cX5_flat 36 = .ok (.aload_n 0, 1) := by decide +kernel
theorem dX5_flat_37 : decode cX5_flat 37 = .ok (.getfield 69, 3) := by decide +kernel
theorem dX5_flat_40 : decode cX5_flat 40 = .ok (.aload_n 0, 1) := by decide +kernel
theorem dX5_flat_41 : decode cX5_flat 41 = .ok (.getfield 72, 3) := by decide +kernel
theorem dX5_flat_44 : decode cX5_flat 44 = .ok (.imul, 1) := by decide +kernel
theorem dX5_flat_45 : decode cX5_flat 45 = .ok (.if_icmp .ge 93, 3) := by decide +kernel
theorem dX5_flat_48 : decode cX5_flat 48 = .ok (.iconst 0, 1) := by decide +kernel
theorem dX5_flat_49 : decode cX5_flat 49 = .ok (.istore 6, 2) := by decide +kernel
theorem dX5_flat_51 : decode cX5_flat 51 = .ok (.iload 6, 2) := by decide +kernel
theorem dX5_flat_53 : decode cX5_flat 53 = .ok (.aload_n 0, 1) := by decide +kernel
theorem dX5_flat_54 : decode cX5_flat 54 = .ok (.getfield 69, 3) := by decide +kernel
theorem dX5_flat_57 : decode cX5_flat 57 = .ok (.aload_n 0, 1) := by decide +kernel
theorem dX5_flat_58 : decode cX5_flat 58 = .ok (.getfield 72, 3) := by decide +kernel
theorem dX5_flat_61 : decode cX5_flat 61 = .ok (.imul, 1) := by decide +kernel
theorem dX5_flat_62 : decode cX5_flat 62 = .ok (.if_icmp .ge 70, 3) := by decide +kernel
theorem dX5_flat_65 : decode cX5_flat 65 = .ok (.lload_n 2, 1) := by decide +kernel
theorem dX5_flat_66 : decode cX5_flat 66 = .ok (.iload 5, 2) := by decide +kernel
theorem dX5_flat_68 : decode cX5_flat 68 = .ok (.lshr, 1) := by decide +kernel
theorem dX5_flat_69 : decode cX5_flat 69 = .ok (.lconst 1, 1) := by decide +kernel
theorem dX5_flat_70 : decode cX5_flat 70 = .ok (.land, 1) := by decide +kernel
theorem dX5_flat_71 : decode cX5_flat 71 = .ok (.lconst 1, 1) := by decide +kernel
theorem dX5_flat_72 : decode cX5_flat 72 = .ok (.lcmp, 1) := by decide +kernel
theorem dX5_flat_73 : decode cX5_flat 73 = .ok (.ifCond .ne 34, 3) := by decide +kernel
theorem dX5_flat_76 : decode cX5_flat 76 = .ok (.aload_n 0, 1) := by decide +kernel
theorem dX5_flat_77 : decode cX5_flat 77 = .ok (.iload 5, 2) := by decide +kernel
theorem dX5_flat_79 : decode cX5_flat 79 = .ok (.iload 6, 2) := by decide +kernel
theorem dX5_flat_81 : decode cX5_flat 81 = .ok (.invokevirtual 236, 3) := by decide +kernel
theorem dX5_flat_84 : decode cX5_flat 84 = .ok (.ifCond .eq 23, 3) := by decide +kernel
theorem dX5_flat_87 : decode cX5_flat 87 = .ok (.aload_n 0, 1) := by decide +kernel
theorem dX5_flat_88 : decode cX5_flat 88 = .ok (.getfield 7, 3) := by decide +kernel
theorem dX5_flat_91 : decode cX5_flat 91 = .ok (.iload 6, 2) := by decide +kernel
theorem dX5_flat_93 : decode cX5_flat 93 = .ok (.iaload, 1) := by decide +kernel
theorem dX5_flat_94 : decode cX5_flat 94 = .ok (.aload_n 0, 1) := by decide +kernel
theorem dX5_flat_95 : decode cX5_flat 95 = .ok (.getfield 7, 3) := by decide +kernel
theorem dX5_flat_98 : decode cX5_flat 98 = .ok (.iload_n 1, 1) := by decide +kernel
theorem dX5_flat_99 : decode cX5_flat 99 = .ok (.iaload, 1) := by decide +kernel
theorem dX5_flat_100 : decode cX5_flat 100 = .ok (.if_icmp .ne 7, 3) := by decide +kernel
theorem dX5_flat_103 : decode cX5_flat 103 = .ok (.iconst 1, 1) := by decide +kernel
theorem dX5_flat_104 : decode cX5_flat 104 = .ok (.goto 4, 3) := by decide +kernel
theorem dX5_flat_107 : decode cX5_flat 107 = .ok (.iconst 0, 1) := by decide +kernel
theorem dX5_flat_108 : decode cX5_flat 108 = .ok (.istore 7, 2) := by decide +kernel
theorem dX5_flat_110 : decode cX5_flat 110 = .ok (.lload_n 2, 1) := by decide +kernel
theorem dX5_flat_111 : decode cX5_flat 111 = .ok (.iload 7, 2) := by decide +kernel
theorem dX5_flat_113 : decode cX5_flat 113 = .ok (.ifCond .eq 10, 3) := by decide +kernel
theorem dX5_flat_116 : decode cX5_flat 116 = .ok (.lconst 1, 1) := by decide +kernel
theorem dX5_flat_117 : decode cX5_flat 117 = .ok (.iload 6, 2) := by decide +kernel
theorem dX5_flat_119 : decode cX5_flat 119 = .ok (.lshl, 1) := by decide +kernel
theorem dX5_flat_120 : decode cX5_flat 120 = .ok (.goto 4, 3) := by decide +kernel
theorem dX5_flat_123 : decode cX5_flat 123 = .ok (.lconst 0, 1) := by decide +kernel
theorem dX5_flat_124 : decode cX5_flat 124 = .ok (.lor, 1) := by decide +kernel
theorem dX5_flat_125 : decode cX5_flat 125 = .ok (.lstore_n 2, 1) := by decide +kernel
theorem dX5_flat_126 : decode cX5_flat 126 = .ok (.iinc 6 1, 3) := by decide +kernel
theorem dX5_flat_129 : decode cX5_flat 129 = .ok (.goto (-78), 3) := by decide +kernel
theorem dX5_flat_132 : decode cX5_flat 132 = .ok (.iinc 5 1, 3) := by decide +kernel
theorem dX5_flat_135 : decode cX5_flat 135 = .ok (.goto (-101), 3) := by decide +kernel
theorem dX5_flat_138 : decode cX5_flat 138 = .ok (.iinc 4 1, 3) := by decide +kernel
theorem dX5_flat_141 : decode cX5_flat 141 = .ok (.goto (-124), 3) := by decide +kernel
theorem dX5_flat_144 : decode cX5_flat 144 = .ok (.lload_n 2, 1) := by decide +kernel
theorem dX5_flat_145 : decode cX5_flat 145 = .ok (.invokestatic 171, 3) := by decide +kernel
theorem dX5_flat_148 : decode cX5_flat 148 = .ok (.ireturn, 1) := by decide +kernel
set_option maxRecDepth 20000 in
theorem tkX5_flat : ∀ q ∈ tbX5_flat, xOk (Zm false yX5_flat.name) RX5 cX5_flat 8 (some .int) pT pY q :=
  fa_c (ok_p (xg_load _ _ _) (x_aload_n dX5_flat_0 rfl)) <|
  fa_c (ok_p (xg_load _ _ _) (x_iload_n dX5_flat_1 rfl)) <|
  fa_c (ok_c pT_131 pY_131 (x_callV (n := 1) (C := RX5) (T := TX5) (N := 34) rfl rfl kw855 kw857 kw38 kw63 kw858 (by decide +kernel) dX5_flat_2)) <|
  fa_c (ok_p (xg_if _ _ _) (x_if_eq dX5_flat_5 (by decide))) <|
  fa_c (ok_p (xg_st _ _) (x_iconst dX5_flat_8 rfl)) <|
  fa_c (ok_r ⟨rfl, dX5_flat_9⟩) <|
  fa_c (ok_p (xg_st _ _) (x_lconst dX5_flat_10 rfl)) <|
  fa_c (ok_p (xg_load _ _ _) (x_iload_n dX5_flat_11 rfl)) <|
  fa_c (ok_p (xg_st _ _) (x_lshl dX5_flat_12)) <|
  fa_c (ok_p (xg_store _ _ _) (x_lstore_n dX5_flat_13 rfl)) <|
  fa_c (ok_p (xg_st _ _) (x_iconst dX5_flat_14 rfl)) <|
  fa_c (ok_p (xg_store _ _ _) (x_istore dX5_flat_15)) <|
  fa_c (ok_p (xg_clr _ (xg_load _ _ _)) (x_clr _ (x_iload dX5_flat_17))) <|
  fa_c (ok_p (xg_load _ _ _) (x_aload_n dX5_flat_19 rfl)) <|
  fa_c (ok_p (xg_getf _ _ _) (x_getf (C := RX5) (T := TX5) (N := 34) rfl (by decide) inX5 kw679 dX5_flat_20)) <|
  fa_c (ok_p (xg_load _ _ _) (x_aload_n dX5_flat_23 rfl)) <|
  fa_c (ok_p (xg_getf _ _ _) (x_getf (C := RX5) (T := TX5) (N := 34) rfl (by decide) inX5 kw680 dX5_flat_24)) <|
  fa_c (ok_p (xg_st _ _) (x_imul dX5_flat_27)) <|
  fa_c (ok_p (xg_icmp _ _ _) (x_icmp_ge dX5_flat_28 (by decide))) <|
  fa_c (ok_p (xg_st _ _) (x_iconst dX5_flat_31 rfl)) <|
  fa_c (ok_p (xg_store _ _ _) (x_istore dX5_flat_32)) <|
  fa_c (ok_p (xg_clr _ (xg_load _ _ _)) (x_clr _ (x_iload dX5_flat_34))) <|
  fa_c (ok_p (xg_load _ _ _) (x_aload_n dX5_flat_36 rfl)) <|
  fa_c (ok_p (xg_getf _ _ _) (x_getf (C := RX5) (T := TX5) (N := 34) rfl (by decide) inX5 kw679 dX5_flat_37)) <|
  fa_c (ok_p (xg_load _ _ _) (x_aload_n dX5_flat_40 rfl)) <|
  fa_c (ok_p (xg_getf _ _ _) (x_getf (C := RX5) (T := TX5) (N := 34) rfl (by decide) inX5 kw680 dX5_flat_41)) <|
  fa_c (ok_p (xg_st _ _) (x_imul dX5_flat_44)) <|
  fa_c (ok_p (xg_icmp _ _ _) (x_icmp_ge dX5_flat_45 (by decide))) <|
  fa_c (ok_p (xg_st _ _) (x_iconst dX5_flat_48 rfl)) <|
  fa_c (ok_p (xg_store _ _ _) (x_istore dX5_flat_49)) <|
  fa_c (ok_p (xg_clr _ (xg_load _ _ _)) (x_clr _ (x_iload dX5_flat_51))) <|
  fa_c (ok_p (xg_load _ _ _) (x_aload_n dX5_flat_53 rfl)) <|
  fa_c (ok_p (xg_getf _ _ _) (x_getf (C := RX5) (T := TX5) (N := 34) rfl (by decide) inX5 kw679 dX5_flat_54)) <|
  fa_c (ok_p (xg_load _ _ _) (x_aload_n dX5_flat_57 rfl)) <|
  fa_c (ok_p (xg_getf _ _ _) (x_getf (C := RX5) (T := TX5) (N := 34) rfl (by decide) inX5 kw680 dX5_flat_58)) <|
  fa_c (ok_p (xg_st _ _) (x_imul dX5_flat_61)) <|
  fa_c (ok_p (xg_icmp _ _ _) (x_icmp_ge dX5_flat_62 (by decide))) <|
  fa_c (ok_p (xg_load _ _ _) (x_lload_n dX5_flat_65 rfl)) <|
  fa_c (ok_p (xg_load _ _ _) (x_iload dX5_flat_66)) <|
  fa_c (ok_p (xg_st _ _) (x_lshr dX5_flat_68)) <|
  fa_c (ok_p (xg_st _ _) (x_lconst dX5_flat_69 rfl)) <|
  fa_c (ok_p (xg_st _ _) (x_land dX5_flat_70)) <|
  fa_c (ok_p (xg_st _ _) (x_lconst dX5_flat_71 rfl)) <|
  fa_c (ok_p (xg_st _ _) (x_lcmp dX5_flat_72)) <|
  fa_c (ok_p (xg_if _ _ _) (x_if_ne dX5_flat_73 (by decide))) <|
  fa_c (ok_p (xg_load _ _ _) (x_aload_n dX5_flat_76 rfl)) <|
  fa_c (ok_p (xg_load _ _ _) (x_iload dX5_flat_77)) <|
  fa_c (ok_p (xg_load _ _ _) (x_iload dX5_flat_79)) <|
  fa_c (ok_c pT_166 pY_166 (x_callV (n := 2) (C := RX5) (T := TX5) (N := 34) rfl rfl kw961 kw963 kw50 kw63 kw964 (by decide +kernel) dX5_flat_81)) <|
  fa_c (ok_p (xg_if _ _ _) (x_if_eq dX5_flat_84 (by decide))) <|
  fa_c (ok_p (xg_load _ _ _) (x_aload_n dX5_flat_87 rfl)) <|
  fa_c (ok_p (xg_getf _ _ _) (x_getf (C := RX5) (T := TX5) (N := 34) rfl (by decide) inX5 kw687 dX5_flat_88)) <|
  fa_c (ok_p (xg_load _ _ _) (x_iload dX5_flat_91)) <|
  fa_c (ok_p (xg_iald _) (x_iald dX5_flat_93)) <|
  fa_c (ok_p (xg_load _ _ _) (x_aload_n dX5_flat_94 rfl)) <|
  fa_c (ok_p (xg_getf _ _ _) (x_getf (C := RX5) (T := TX5) (N := 34) rfl (by decide) inX5 kw687 dX5_flat_95)) <|
  fa_c (ok_p (xg_load _ _ _) (x_iload_n dX5_flat_98 rfl)) <|
  fa_c (ok_p (xg_iald _) (x_iald dX5_flat_99)) <|
  fa_c (ok_p (xg_icmp _ _ _) (x_icmp_ne dX5_flat_100 (by decide))) <|
  fa_c (ok_p (xg_st _ _) (x_iconst dX5_flat_103 rfl)) <|
  fa_c (ok_p (xg_st _ _) (x_goto dX5_flat_104 (by decide))) <|
  fa_c (ok_p (xg_st _ _) (x_iconst dX5_flat_107 rfl)) <|
  fa_c (ok_p (xg_store _ _ _) (x_istore dX5_flat_108)) <|
  fa_c (ok_p (xg_load _ _ _) (x_lload_n dX5_flat_110 rfl)) <|
  fa_c (ok_p (xg_load _ _ _) (x_iload dX5_flat_111)) <|
  fa_c (ok_p (xg_if _ _ _) (x_if_eq dX5_flat_113 (by decide))) <|
  fa_c (ok_p (xg_st _ _) (x_lconst dX5_flat_116 rfl)) <|
  fa_c (ok_p (xg_load _ _ _) (x_iload dX5_flat_117)) <|
  fa_c (ok_p (xg_st _ _) (x_lshl dX5_flat_119)) <|
  fa_c (ok_p (xg_st _ _) (x_goto dX5_flat_120 (by decide))) <|
  fa_c (ok_p (xg_st _ _) (x_lconst dX5_flat_123 rfl)) <|
  fa_c (ok_p (xg_st _ _) (x_lor dX5_flat_124)) <|
  fa_c (ok_p (xg_store _ _ _) (x_lstore_n dX5_flat_125 rfl)) <|
  fa_c (ok_p (xg_iinc _ _ _) (x_iinc dX5_flat_126 rfl)) <|
  fa_c (ok_p (xg_st _ _) (x_goto dX5_flat_129 (by decide))) <|
  fa_c (ok_p (xg_iinc _ _ _) (x_iinc dX5_flat_132 rfl)) <|
  fa_c (ok_p (xg_st _ _) (x_goto dX5_flat_135 (by decide))) <|
  fa_c (ok_p (xg_iinc _ _ _) (x_iinc dX5_flat_138 rfl)) <|
  fa_c (ok_p (xg_st _ _) (x_goto dX5_flat_141 (by decide))) <|
  fa_c (ok_p (xg_load _ _ _) (x_lload_n dX5_flat_144 rfl)) <|
  fa_c (ok_c pT_125 pY_125 (x_callS (n := 1) rfl kw872 kw873 kw63 kw874 (by decide +kernel) dX5_flat_145)) <|
  fa_c (ok_r ⟨rfl, dX5_flat_148⟩) <|
  fa_n
theorem dX5_begins_0 : decode cX5_begins 0 = .ok (.iconst 1, 1) := by decide +kernel
theorem dX5_begins_1 : decode cX5_begins 1 = .ok (.istore 6, 2) := by decide +kernel
theorem dX5_begins_3 : decode cX5_begins 3 = .ok (.iconst 0, 1) := by decide +kernel
theorem dX5_begins_4 : decode cX5_begins 4 = .ok (.istore 7, 2) := by decide +kernel
theorem dX5_begins_6 : decode cX5_begins 6 = .ok (.iload 7, 2) := by decide +kernel
theorem dX5_begins_8 : decode cX5_begins 8 = .ok (.iload_n 2, 1) := by decide +kernel
theorem dX5_begins_9 : decode cX5_begins 9 = .ok (.if_icmp .ge 134, 3) := by decide +kernel
theorem dX5_begins_12 : decode cX5_begins 12 = .ok (.iload 6, 2) := by decide +kernel
theorem dX5_begins_14 : decode cX5_begins 14 = .ok (.ifCond .eq 129, 3) := by decide +kernel
theorem dX5_begins_17 : decode cX5_begins 17 = .ok (.iload 4, 2) := by decide +kernel
theorem dX5_begins_19 : decode cX5_begins 19 = .ok (.iload 7, 2) := by decide +kernel
theorem dX5_begins_21 : decode cX5_begins 21 = .ok (.iload_n 3, 1) := by decide +kernel
theorem dX5_begins_22 : decode cX5_begins 22 = .ok (.invokestatic 175, 3) := by decide +kernel
theorem dX5_begins_25 : decode cX5_begins 25 = .ok (.imul, 1) := by decide +kernel
theorem dX5_begins_26 : decode cX5_begins 26 = .ok (.iadd, 1) := by decide +kernel
theorem dX5_begins_27 : decode cX5_begins 27 = .ok (.istore 8, 2) := by decide +kernel
theorem dX5_begins_29 : decode cX5_begins 29 = .ok (.iload 5, 2) := by decide +kernel
theorem dX5_begins_31 : decode cX5_begins 31 = .ok (.iload 7, 2) := by decide +kernel
theorem dX5_begins_33 : decode cX5_begins 33 = .ok (.iload_n 3, 1) := by decide +kernel
theorem dX5_begins_34 : decode cX5_begins 34 = .ok (.invokestatic 178, 3) := by decide +kernel
theorem dX5_begins_37 : decode cX5_begins 37 = .ok (.imul, 1) := by decide +kernel
theorem dX5_begins_38 : decode cX5_begins 38 = .ok (.iadd, 1) := by decide +kernel
theorem dX5_begins_39 : decode cX5_begins 39 = .ok (.istore 9, 2) := by decide +kernel
theorem dX5_begins_41 : decode cX5_begins 41 = .ok (.aload_n 0, 1) := by decide +kernel
theorem dX5_begins_42 : decode cX5_begins 42 = .ok (.iload 8, 2) := by decide +kernel
theorem dX5_begins_44 : decode cX5_begins 44 = .ok (.iload 9, 2) := by decide +kernel
theorem dX5_begins_46 : decode cX5_begins 46 = .ok (.invokevirtual 181, 3) := by decide +kernel
theorem dX5_begins_49 : decode cX5_begins 49 = .ok (.istore 6, 2) := by decide +kernel
theorem dX5_begins_51 : decode cX5_begins 51 = .ok (.iconst 0, 1) := by decide +kernel
theorem dX5_begins_52 : decode cX5_begins 52 = .ok (.istore 10, 2) := by decide +kernel
theorem dX5_begins_54 : decode cX5_begins 54 = .ok (.iload 10, 2) := by decide +kernel
theorem dX5_begins_56 : decode cX5_begins 56 = .ok (.aload_n 0, 1) := by decide +kernel
theorem dX5_begins_57 : decode cX5_begins 57 = .ok (.getfield 62, 3) := by decide +kernel
theorem dX5_begins_60 : decode cX5_begins 60 = .ok (.if_icmp .ge 77, 3) := by decide +kernel
theorem dX5_begins_63 : decode cX5_begins 63 = .ok (.iload 6, 2) := by decide +kernel
theorem dX5_begins_65 : decode cX5_begins 65 = .ok (.ifCond .eq 72, 3) := by decide +kernel
theorem dX5_begins_68 : decode cX5_begins 68 = .ok (.aload_n 0, 1) := by decide +kernel
theorem dX5_begins_69 : decode cX5_begins 69 = .ok (.getfield 141, 3) := by decide +kernel
theorem dX5_begins_72 : decode cX5_begins 72 = .ok (.iload 10, 2) := by decide +kernel
theorem dX5_begins_74 : decode cX5_begins 74 = .ok (.invokestatic 154, 3) := by decide +kernel
theorem dX5_begins_77 : decode cX5_begins 77 = .ok (.ifCond .ne 47, 3) := by decide +kernel
theorem dX5_begins_80 : decode cX5_begins 80 = .ok (.aload_n 0, 1) := by decide +kernel
theorem dX5_begins_81 : decode cX5_begins 81 = .ok (.iload 10, 2) := by decide +kernel
theorem dX5_begins_83 : decode cX5_begins 83 = .ok (.aload_n 0, 1) := by decide +kernel
theorem dX5_begins_84 : decode cX5_begins 84 = .ok (.getfield 7, 3) := by decide +kernel
theorem dX5_begins_87 : decode cX5_begins 87 = .ok (.aload_n 0, 1) := by decide +kernel
theorem dX5_begins_88 : decode cX5_begins 88 = .ok (.getfield 69, 3) := by decide +kernel
theorem dX5_begins_91 : decode cX5_begins 91 = .ok (.iload 9, 2) := by decide +kernel
theorem dX5_begins_93 : decode cX5_begins 93 = .ok (.imul, 1) := by decide +kernel
theorem dX5_begins_94 : decode cX5_begins 94 = .ok (.iload 8, 2) := by decide +kernel
theorem dX5_begins_96 : decode cX5_begins 96 = .ok (.iadd, 1) := by decide +kernel
theorem dX5_begins_97 : decode cX5_begins 97 = .ok (.iload 10, 2) := by decide +kernel
theorem dX5_begins_99 : decode cX5_begins 99 = .ok (.iadd, 1) := by decide +kernel
theorem dX5_begins_100 : decode cX5_begins 100 = .ok (.iaload, 1) := by decide +kernel
theorem dX5_begins_101 : decode cX5_begins 101 = .ok (.invokevirtual 163, 3) := by decide +kernel
theorem dX5_begins_104 : decode cX5_begins 104 = .ok (.aload_n 0, 1) := by decide +kernel
theorem dX5_begins_105 : decode cX5_begins 105 = .ok (.getfield 46, 3) := by decide +kernel
theorem dX5_begins_108 : decode cX5_begins 108 = .ok (.iload_n 1, 1) := by decide +kernel
theorem dX5_begins_109 : decode cX5_begins 109 = .ok (.aload_n 0, 1) := by decide +kernel
theorem dX5_begins_110 : decode cX5_begins 110 = .ok (.getfield 62, 3) := by decide +kernel
theorem dX5_begins_113 : decode cX5_begins 113 = .ok (.iload 7, 2) := by decide +kernel
theorem dX5_begins_115 : decode cX5_begins 115 = .ok (.imul, 1) := by decide +kernel
theorem dX5_begins_116 : decode cX5_begins 116 = .ok (.iadd, 1) := by decide +kernel
theorem dX5_begins_117 : decode cX5_begins 117 = .ok (.iload 10, 2) := by decide +kernel
theorem dX5_begins_119 : decode cX5_begins 119 = .ok (.iadd, 1) := by decide +kernel
theorem dX5_begins_120 : decode cX5_begins 120 = .ok (.iaload, 1) := by decide +kernel
theorem dX5_begins_121 : decode cX5_begins 121 = .ok (.if_icmp .ne 7, 3) := by decide +kernel
theorem dX5_begins_124 : decode cX5_begins 124 = .ok (.iconst 1, 1) := by decide +kernel
theorem dX5_begins_125 : decode cX5_begins 125 = .ok (.goto 4, 3) := by decide +kernel
theorem dX5_begins_128 : decode cX5_begins 128 = .ok (.iconst 0, 1) := by decide +kernel
theorem dX5_begins_129 : decode cX5_begins 129 = .ok (.istore 6, 2) := by decide +kernel
theorem dX5_begins_131 : decode cX5_begins 131 = .ok (.iinc 10 1, 3) := by decide +kernel
theorem dX5_begins_134 : decode cX5_begins 134 = .ok (.goto (-80), 3) := by decide +kernel
theorem dX5_begins_137 : decode cX5_begins 137 = .ok (.iinc 7 1, 3) := by decide +kernel
theorem dX5_begins_140 : decode cX5_begins 140 = .ok (.goto (-134), 3) := by decide +kernel
theorem dX5_begins_143 : decode cX5_begins 143 = .ok (.iload 6, 2) := by decide +kernel
theorem dX5_begins_145 : decode cX5_begins 145 = .ok (.ireturn, 1) := by decide +kernel
set_option maxRecDepth 20000 in
theorem tkX5_begins : ∀ q ∈ tbX5_begins, xOk (Zm false yX5_begins.name) RX5 cX5_begins 11 (some .boolean) pT pY q :=
  fa_c (ok_p (xg_st _ _) (x_iconst dX5_begins_0 rfl)) <|
  fa_c (ok_p (xg_store _ _ _) (x_istore dX5_begins_1)) <|
  fa_c (ok_p (xg_st _ _) (x_iconst dX5_begins_3 rfl)) <|
  fa_c (ok_p (xg_store _ _ _) (x_istore dX5_begins_4)) <|
  fa_c (ok_p (xg_clr _ (xg_load _ _ _)) (x_clr _ (x_iload dX5_begins_6))) <|
  fa_c (ok_p (xg_load _ _ _) (x_iload_n dX5_begins_8 rfl)) <|
  fa_c (ok_p (xg_icmp _ _ _) (x_icmp_ge dX5_begins_9 (by decide))) <|
  fa_c (ok_p (xg_load _ _ _) (x_iload dX5_begins_12)) <|
  fa_c (ok_p (xg_if _ _ _) (x_if_eq dX5_begins_14 (by decide))) <|
  fa_c (ok_p (xg_load _ _ _) (x_iload dX5_begins_17)) <|
  fa_c (ok_p (xg_load _ _ _) (x_iload dX5_begins_19)) <|
  fa_c (ok_p (xg_load _ _ _) (x_iload_n dX5_begins_21 rfl)) <|
  fa_c (ok_c pT_150 pY_150 (x_callS (n := 1) rfl kw895 kw896 kw63 kw897 (by decide +kernel) dX5_begins_22)) <|
  fa_c (ok_p (xg_st _ _) (x_imul dX5_begins_25)) <|
  fa_c (ok_p (xg_st _ _) (x_iadd dX5_begins_26)) <|
  fa_c (ok_p (xg_store _ _ _) (x_istore dX5_begins_27)) <|
  fa_c (ok_p (xg_load _ _ _) (x_iload dX5_begins_29)) <|
  fa_c (ok_p (xg_load _ _ _) (x_iload dX5_begins_31)) <|
  fa_c (ok_p (xg_load _ _ _) (x_iload_n dX5_begins_33 rfl)) <|
  fa_c (ok_c pT_151 pY_151 (x_callS (n := 1) rfl kw898 kw899 kw63 kw900 (by decide +kernel) dX5_begins_34)) <|
  fa_c (ok_p (xg_st _ _) (x_imul dX5_begins_37)) <|
  fa_c (ok_p (xg_st _ _) (x_iadd dX5_begins_38)) <|
  fa_c (ok_p (xg_store _ _ _) (x_istore dX5_begins_39)) <|
  fa_c (ok_p (xg_load _ _ _) (x_aload_n dX5_begins_41 rfl)) <|
  fa_c (ok_p (xg_load _ _ _) (x_iload dX5_begins_42)) <|
  fa_c (ok_p (xg_load _ _ _) (x_iload dX5_begins_44)) <|
  fa_c (ok_c pT_149 pY_149 (x_callV (n := 2) (C := RX5) (T := TX5) (N := 34) rfl rfl kw901 kw903 kw40 kw63 kw904 (by decide +kernel) dX5_begins_46)) <|
  fa_c (ok_p (xg_store _ _ _) (x_istore dX5_begins_49)) <|
  fa_c (ok_p (xg_st _ _) (x_iconst dX5_begins_51 rfl)) <|
  fa_c (ok_p (xg_store _ _ _) (x_istore dX5_begins_52)) <|
  fa_c (ok_p (xg_load _ _ _) (x_iload dX5_begins_54)) <|
  fa_c (ok_p (xg_load _ _ _) (x_aload_n dX5_begins_56 rfl)) <|
  fa_c (ok_p (xg_getf _ _ _) (x_getf (C := RX5) (T := TX5) (N := 34) rfl (by decide) inX5 kw681 dX5_begins_57)) <|
  fa_c (ok_p (xg_icmp _ _ _) (x_icmp_ge dX5_begins_60 (by decide))) <|
  fa_c (ok_p (xg_load _ _ _) (x_iload dX5_begins_63)) <|
  fa_c (ok_p (xg_if _ _ _) (x_if_eq dX5_begins_65 (by decide))) <|
  fa_c (ok_p (xg_load _ _ _) (x_aload_n dX5_begins_68 rfl)) <|
  fa_c (ok_p (xg_getf _ _ _) (x_getf (C := RX5) (T := TX5) (N := 34) rfl (by decide) inX5 kw685 dX5_begins_69)) <|
  fa_c (ok_p (xg_load _ _ _) (x_iload dX5_begins_72)) <|
  fa_c (ok_c pT_124 pY_124 (x_callS (n := 2) rfl kw832 kw833 kw63 kw834 (by decide +kernel) dX5_begins_74)) <|
  fa_c (ok_p (xg_if _ _ _) (x_if_ne dX5_begins_77 (by decide))) <|
  fa_c (ok_p (xg_load _ _ _) (x_aload_n dX5_begins_80 rfl)) <|
  fa_c (ok_p (xg_load _ _ _) (x_iload dX5_begins_81)) <|
  fa_c (ok_p (xg_load _ _ _) (x_aload_n dX5_begins_83 rfl)) <|
  fa_c (ok_p (xg_getf _ _ _) (x_getf (C := RX5) (T := TX5) (N := 34) rfl (by decide) inX5 kw687 dX5_begins_84)) <|
  fa_c (ok_p (xg_load _ _ _) (x_aload_n dX5_begins_87 rfl)) <|
  fa_c (ok_p (xg_getf _ _ _) (x_getf (C := RX5) (T := TX5) (N := 34) rfl (by decide) inX5 kw679 dX5_begins_88)) <|
  fa_c (ok_p (xg_load _ _ _) (x_iload dX5_begins_91)) <|
  fa_c (ok_p (xg_st _ _) (x_imul dX5_begins_93)) <|
  fa_c (ok_p (xg_load _ _ _) (x_iload dX5_begins_94)) <|
  fa_c (ok_p (xg_st _ _) (x_iadd dX5_begins_96)) <|
  fa_c (ok_p (xg_load _ _ _) (x_iload dX5_begins_97)) <|
  fa_c (ok_p (xg_st _ _) (x_iadd dX5_begins_99)) <|
  fa_c (ok_p (xg_iald _) (x_iald dX5_begins_100)) <|
  fa_c (ok_c pT_140 pY_140 (x_callV (n := 2) (C := RX5) (T := TX5) (N := 34) rfl rfl kw847 kw849 kw37 kw63 kw850 (by decide +kernel) dX5_begins_101)) <|
  fa_c (ok_p (xg_load _ _ _) (x_aload_n dX5_begins_104 rfl)) <|
  fa_c (ok_p (xg_getf _ _ _) (x_getf (C := RX5) (T := TX5) (N := 34) rfl (by decide) inX5 kw709 dX5_begins_105)) <|
  fa_c (ok_p (xg_load _ _ _) (x_iload_n dX5_begins_108 rfl)) <|
  fa_c (ok_p (xg_load _ _ _) (x_aload_n dX5_begins_109 rfl)) <|
  fa_c (ok_p (xg_getf _ _ _) (x_getf (C := RX5) (T := TX5) (N := 34) rfl (by decide) inX5 kw681 dX5_begins_110)) <|
  fa_c (ok_p (xg_load _ _ _) (x_iload dX5_begins_113)) <|
  fa_c (ok_p (xg_st _ _) (x_imul dX5_begins_115)) <|
  fa_c (ok_p (xg_st _ _) (x_iadd dX5_begins_116)) <|
  fa_c (ok_p (xg_load _ _ _) (x_iload dX5_begins_117)) <|
  fa_c (ok_p (xg_st _ _) (x_iadd dX5_begins_119)) <|
  fa_c (ok_p (xg_iald _) (x_iald dX5_begins_120)) <|
  fa_c (ok_p (xg_icmp _ _ _) (x_icmp_ne dX5_begins_121 (by decide))) <|
  fa_c (ok_p (xg_st _ _) (x_iconst dX5_begins_124 rfl)) <|
  fa_c (ok_p (xg_st _ _) (x_goto dX5_begins_125 (by decide))) <|
  fa_c (ok_p (xg_st _ _) (x_iconst dX5_begins_128 rfl)) <|
  fa_c (ok_p (xg_store _ _ _) (x_istore dX5_begins_129)) <|
  fa_c (ok_p (xg_iinc _ _ _) (x_iinc dX5_begins_131 rfl)) <|
  fa_c (ok_p (xg_st _ _) (x_goto dX5_begins_134 (by decide))) <|
  fa_c (ok_p (xg_iinc _ _ _) (x_iinc dX5_begins_137 rfl)) <|
  fa_c (ok_p (xg_st _ _) (x_goto dX5_begins_140 (by decide))) <|
  fa_c (ok_p (xg_load _ _ _) (x_iload dX5_begins_143)) <|
  fa_c (ok_r ⟨rfl, dX5_begins_145⟩) <|
  fa_n
