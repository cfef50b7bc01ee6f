/-! the tables are the methods' code: by program -/
theorem dX4_init_0 : decode cX4_init 0 = .ok (.aload_n 0, 1) := by decide +kernel
theorem dX4_init_1 : decode cX4_init 1 = .ok (.invokespecial 3, 3) := by decide +kernel
theorem dX4_init_4 : decode cX4_init 4 = .ok (.aload_n 0, 1) := by decide +kernel
theorem dX4_init_5 : decode cX4_init 5 = .ok (.iconst 4, 1) := by decide +kernel
theorem dX4_init_6 : decode cX4_init 6 = .ok (.anewarray 9, 3) := by decide +kernel
theorem dX4_init_9 : decode cX4_init 9 = .ok (.dup, 1) := by decide +kernel
theorem dX4_init_10 : decode cX4_init 10 = .ok (.iconst 0, 1) := by decide +kernel
theorem dX4_init_11 : decode cX4_init 11 = .ok (.new 9, 3) := by decide +kernel
theorem dX4_init_14 : decode cX4_init 14 = .ok (.dup, 1) := by decide +kernel
theorem dX4_init_15 : decode cX4_init 15 = .ok (.invokespecial 11, 3) := by decide +kernel
theorem dX4_init_18 : decode cX4_init 18 = .ok (.aastore, 1) := by decide +kernel
theorem dX4_init_19 : decode cX4_init 19 = .ok (.dup, 1) := by decide +kernel
theorem dX4_init_20 : decode cX4_init 20 = .ok (.iconst 1, 1) := by decide +kernel
theorem dX4_init_21 : decode cX4_init 21 = .ok (.new 9, 3) := by decide +kernel
theorem dX4_init_24 : decode cX4_init 24 = .ok (.dup, 1) := by decide +kernel
theorem dX4_init_25 : decode cX4_init 25 = .ok (.invokespecial 11, 3) := by decide +kernel
theorem dX4_init_28 : decode cX4_init 28 = .ok (.aastore, 1) := by decide +kernel
theorem dX4_init_29 : decode cX4_init 29 = .ok (.dup, 1) := by decide +kernel
theorem dX4_init_30 : decode cX4_init 30 = .ok (.iconst 2, 1) := by decide +kernel
theorem dX4_init_31 : decode cX4_init 31 = .ok (.new 9, 3) := by decide +kernel
theorem dX4_init_34 : decode cX4_init 34 = .ok (.dup, 1) := by decide +kernel
theorem dX4_init_35 : decode cX4_init 35 = .ok (.invokespecial 11, 3) := by decide +kernel
theorem dX4_init_38 : decode cX4_init 38 = .ok (.aastore, 1) := by decide +kernel
theorem dX4_init_39 : decode cX4_init 39 = .ok (.dup, 1) := by decide +kernel
theorem dX4_init_40 : decode cX4_init 40 = .ok (.iconst 3, 1) := by decide +kernel
theorem dX4_init_41 : decode cX4_init 41 = .ok (.new 9, 3) := by decide +kernel
theorem dX4_init_44 : decode cX4_init 44 = .ok (.dup, 1) := by decide +kernel
theorem dX4_init_45 : decode cX4_init 45 = .ok (.invokespecial 11, 3) := by decide +kernel
theorem dX4_init_48 : decode cX4_init 48 = .ok (.aastore, 1) := by decide +kernel
theorem dX4_init_49 : decode cX4_init 49 = .ok (.putfield 12, 3) := by decide +kernel
theorem dX4_init_52 : decode cX4_init 52 = .ok (.aload_n 0, 1) := by decide +kernel
theorem dX4_init_53 : decode cX4_init 53 = .ok (.new 18, 3) := by decide +kernel
theorem dX4_init_56 : decode cX4_init 56 = .ok (.dup, 1) := by decide +kernel
theorem dX4_init_57 : decode cX4_init 57 = .ok (.invokespecial 20, 3) := by decide +kernel
theorem dX4_init_60 : decode cX4_init 60 = .ok (.putfield 21, 3) := by decide +kernel
theorem dX4_init_63 : decode cX4_init 63 = .ok (.aload_n 0, 1) := by decide +kernel
theorem dX4_init_64 : decode cX4_init 64 = .ok (.new 25, 3) := by decide +kernel
theorem dX4_init_67 : decode cX4_init 67 = .ok (.dup, 1) := by decide +kernel
theorem dX4_init_68 : decode cX4_init 68 = .ok (.invokespecial 27, 3) := by decide +kernel
theorem dX4_init_71 : decode cX4_init 71 = .ok (.putfield 28, 3) := by decide +kernel
theorem dX4_init_74 : decode cX4_init 74 = .ok (.aload_n 0, 1) := by decide +kernel
theorem dX4_init_75 : decode cX4_init 75 = .ok (.bipush 60, 2) := by decide +kernel
theorem dX4_init_77 : decode cX4_init 77 = .ok (.newarray .int, 2) := by decide +kernel
theorem dX4_init_79 : decode cX4_init 79 = .ok (.putfield 32, 3) := by decide +kernel
theorem dX4_init_82 : decode cX4_init 82 = .ok (.return_, 1) := by decide +kernel
set_option maxRecDepth 20000 in
theorem tkX4_init : ∀ q ∈ tbX4_init, xOk (Zm true yX4_init.name) RX4 cX4_init 1 (none) pT pY q :=
  fa_c (ok_p (xg_load _ _ _) (x_aload_n dX4_init_0 rfl)) <|
  fa_c (ok_p (xg_obj _) (x_obj (fun _ _ _ _ _ h => h.2 rfl) kw74 kw75 kw76 dX4_init_1)) <|
  fa_c (ok_p (xg_load _ _ _) (x_aload_n dX4_init_4 rfl)) <|
  fa_c (ok_p (xg_st _ _) (x_iconst dX4_init_5 rfl)) <|
  fa_c (ok_p (xg_newq _) (x_newq kw77 dX4_init_6)) <|
  fa_c (ok_p (xg_st _ _) (x_dup dX4_init_9)) <|
  fa_c (ok_p (xg_st _ _) (x_iconst dX4_init_10 rfl)) <|
  fa_c (ok_p (xg_new _ _ _) (x_new (C := RX3) (T := TX3) (N := 3) tyX3 tyX3_ok rfl inX3 kw77 kw79 kw60 (by decide +kernel) rfl (fun _ _ => rfl) dX4_init_11)) <|
  fa_c (ok_p (xg_st _ _) (x_dup dX4_init_14)) <|
  fa_c (ok_c pT_60 pY_60 (x_callIN (n := 0) (ci := 2) (host := "HullCharts") rfl rfl (by decide +kernel) rfl kw81 kw60 kw82 (by decide +kernel) dX4_init_15)) <|
  fa_c (ok_p (xg_aast _) (x_aast dX4_init_18)) <|
  fa_c (ok_p (xg_st _ _) (x_dup dX4_init_19)) <|
  fa_c (ok_p (xg_st _ _) (x_iconst dX4_init_20 rfl)) <|
  fa_c (ok_p (xg_new _ _ _) (x_new (C := RX3) (T := TX3) (N := 3) tyX3 tyX3_ok rfl inX3 kw77 kw79 kw60 (by decide +kernel) rfl (fun _ _ => rfl) dX4_init_21)) <|
  fa_c (ok_p (xg_st _ _) (x_dup dX4_init_24)) <|
  fa_c (ok_c pT_60 pY_60 (x_callIN (n := 0) (ci := 2) (host := "HullCharts") rfl rfl (by decide +kernel) rfl kw81 kw60 kw82 (by decide +kernel) dX4_init_25)) <|
  fa_c (ok_p (xg_aast _) (x_aast dX4_init_28)) <|
  fa_c (ok_p (xg_st _ _) (x_dup dX4_init_29)) <|
  fa_c (ok_p (xg_st _ _) (x_iconst dX4_init_30 rfl)) <|
  fa_c (ok_p (xg_new _ _ _) (x_new (C := RX3) (T := TX3) (N := 3) tyX3 tyX3_ok rfl inX3 kw77 kw79 kw60 (by decide +kernel) rfl (fun _ _ => rfl) dX4_init_31)) <|
  fa_c (ok_p (xg_st _ _) (x_dup dX4_init_34)) <|
  fa_c (ok_c pT_60 pY_60 (x_callIN (n := 0) (ci := 2) (host := "HullCharts") rfl rfl (by decide +kernel) rfl kw81 kw60 kw82 (by decide +kernel) dX4_init_35)) <|
  fa_c (ok_p (xg_aast _) (x_aast dX4_init_38)) <|
  fa_c (ok_p (xg_st _ _) (x_dup dX4_init_39)) <|
  fa_c (ok_p (xg_st _ _) (x_iconst dX4_init_40 rfl)) <|
  fa_c (ok_p (xg_new _ _ _) (x_new (C := RX3) (T := TX3) (N := 3) tyX3 tyX3_ok rfl inX3 kw77 kw79 kw60 (by decide +kernel) rfl (fun _ _ => rfl) dX4_init_41)) <|
  fa_c (ok_p (xg_st _ _) (x_dup dX4_init_44)) <|
  fa_c (ok_c pT_60 pY_60 (x_callIN (n := 0) (ci := 2) (host := "HullCharts") rfl rfl (by decide +kernel) rfl kw81 kw60 kw82 (by decide +kernel) dX4_init_45)) <|
  fa_c (ok_p (xg_aast _) (x_aast dX4_init_48)) <|
  fa_c (ok_p (xg_putf _ _ _ _) (x_putfof (C := RX4) (T := TX4) (N := 6) tyX4 tyX4_ok nmX4 rfl (by decide) inX4 kw151 dX4_init_49 (tyX4_ok 0 (by decide)) (fun _ _ _ _ _ h => Or.inr ⟨rfl, h.1, rfl⟩))) <|
  fa_c (ok_p (xg_load _ _ _) (x_aload_n dX4_init_52 rfl)) <|
  fa_c (ok_p (xg_new _ _ _) (x_new (C := RX1) (T := TX1) (N := 10) tyX1 tyX1_ok rfl inX1 kw95 kw96 kw61 (by decide +kernel) rfl (fun _ _ => rfl) dX4_init_53)) <|
  fa_c (ok_p (xg_st _ _) (x_dup dX4_init_56)) <|
  fa_c (ok_c pT_6 pY_6 (x_callIN (n := 0) (ci := 1) (host := "HullCharts") rfl rfl (by decide +kernel) rfl kw98 kw61 kw99 (by decide +kernel) dX4_init_57)) <|
  fa_c (ok_p (xg_putf _ _ _ _) (x_putfof (C := RX4) (T := TX4) (N := 6) tyX4 tyX4_ok nmX4 rfl (by decide) inX4 kw152 dX4_init_60 (tyX4_ok 1 (by decide)) (fun _ _ _ _ _ h => Or.inr ⟨rfl, h.1, rfl⟩))) <|
  fa_c (ok_p (xg_load _ _ _) (x_aload_n dX4_init_63 rfl)) <|
  fa_c (ok_p (xg_new _ _ _) (x_new (C := RX0) (T := TX0) (N := 4) tyX0 tyX0_ok rfl inX0 kw132 kw133 kw62 (by decide +kernel) rfl (fun _ _ => rfl) dX4_init_64)) <|
  fa_c (ok_p (xg_st _ _) (x_dup dX4_init_67)) <|
  fa_c (ok_c pT_0 pY_0 (x_callIN (n := 0) (ci := 0) (host := "HullCharts") rfl rfl (by decide +kernel) rfl kw135 kw62 kw136 (by decide +kernel) dX4_init_68)) <|
  fa_c (ok_p (xg_putf _ _ _ _) (x_putfof (C := RX4) (T := TX4) (N := 6) tyX4 tyX4_ok nmX4 rfl (by decide) inX4 kw153 dX4_init_71 (tyX4_ok 2 (by decide)) (fun _ _ _ _ _ h => Or.inr ⟨rfl, h.1, rfl⟩))) <|
  fa_c (ok_p (xg_load _ _ _) (x_aload_n dX4_init_74 rfl)) <|
  fa_c (ok_p (xg_st _ _) (x_bipush dX4_init_75 rfl)) <|
  fa_c (ok_p (xg_newa _) (x_newa dX4_init_77 kw94)) <|
  fa_c (ok_p (xg_putf _ _ _ _) (x_putfof (C := RX4) (T := TX4) (N := 6) tyX4 tyX4_ok nmX4 rfl (by decide) inX4 kw154 dX4_init_79 (tyX4_ok 3 (by decide)) (fun _ _ _ _ _ h => Or.inr ⟨rfl, h.1, rfl⟩))) <|
  fa_c (ok_r ⟨rfl, dX4_init_82⟩) <|
  fa_n
theorem dX4_sea_0 : decode cX4_sea 0 = .ok (.aload_n 0, 1) := by decide +kernel
theorem dX4_sea_1 : decode cX4_sea 1 = .ok (.iconst 0, 1) := by decide +kernel
theorem dX4_sea_2 : decode cX4_sea 2 = .ok (.putfield 36, 3) := by decide +kernel
theorem dX4_sea_5 : decode cX4_sea 5 = .ok (.aload_n 0, 1) := by decide +kernel
theorem dX4_sea_6 : decode cX4_sea 6 = .ok (.iload_n 1, 1) := by decide +kernel
theorem dX4_sea_7 : decode cX4_sea 7 = .ok (.invokevirtual 40, 3) := by decide +kernel
theorem dX4_sea_10 : decode cX4_sea 10 = .ok (.astore 5, 2) := by decide +kernel
theorem dX4_sea_12 : decode cX4_sea 12 = .ok (.aload 5, 2) := by decide +kernel
theorem dX4_sea_14 : decode cX4_sea 14 = .ok (.ifnonnull 5, 3) := by decide +kernel
theorem dX4_sea_17 : decode cX4_sea 17 = .ok (.iconst (-1), 1) := by decide +kernel
theorem dX4_sea_18 : decode cX4_sea 18 = .ok (.ireturn, 1) := by decide +kernel
theorem dX4_sea_19 : decode cX4_sea 19 = .ok (.iload_n 2, 1) := by decide +kernel
theorem dX4_sea_20 : decode cX4_sea 20 = .ok (.invokestatic 44, 3) := by decide +kernel
theorem dX4_sea_23 : decode cX4_sea 23 = .ok (.ifCond .ne 6, 3) := by decide +kernel
theorem dX4_sea_26 : decode cX4_sea 26 = .ok (.bipush (-2), 2) := by decide +kernel
theorem dX4_sea_28 : decode cX4_sea 28 = .ok (.ireturn, 1) := by decide +kernel
theorem dX4_sea_29 : decode cX4_sea 29 = .ok (.aload_n 0, 1) := by decide +kernel
theorem dX4_sea_30 : decode cX4_sea 30 = .ok (.aload 5, 2) := by decide +kernel
theorem dX4_sea_32 : decode cX4_sea 32 = .ok (.iload_n 2, 1) := by decide +kernel
theorem dX4_sea_33 : decode cX4_sea 33 = .ok (.iload_n 3, 1) := by decide +kernel
theorem dX4_sea_34 : decode cX4_sea 34 = .ok (.iload 4, 2) := by decide +kernel
theorem dX4_sea_36 : decode cX4_sea 36 = .ok (.invokevirtual 48, 3) := by decide +kernel
theorem dX4_sea_39 : decode cX4_sea 39 = .ok (.istore 6, 2) := by decide +kernel
theorem dX4_sea_41 : decode cX4_sea 41 = .ok (.iload 6, 2) := by decide +kernel
theorem dX4_sea_43 : decode cX4_sea 43 = .ok (.ifCond .eq 10, 3) := by decide +kernel
theorem dX4_sea_46 : decode cX4_sea 46 = .ok (.aload_n 0, 1) := by decide +kernel
theorem dX4_sea_47 : decode cX4_sea 47 = .ok (.iload 6, 2) := by decide +kernel
theorem dX4_sea_49 : decode cX4_sea 49 = .ok (.invokevirtual 52, 3) := by decide +kernel
theorem dX4_sea_52 : decode cX4_sea 52 = .ok (.ireturn, 1) := by decide +kernel
theorem dX4_sea_53 : decode cX4_sea 53 = .ok (.aload_n 0, 1) := by decide +kernel
theorem dX4_sea_54 : decode cX4_sea 54 = .ok (.getfield 32, 3) := by decide +kernel
theorem dX4_sea_57 : decode cX4_sea 57 = .ok (.iload 4, 2) := by decide +kernel
theorem dX4_sea_59 : decode cX4_sea 59 = .ok (.invokestatic 56, 3) := by decide +kernel
theorem dX4_sea_62 : decode cX4_sea 62 = .ok (.istore 7, 2) := by decide +kernel
theorem dX4_sea_64 : decode cX4_sea 64 = .ok (.iload 7, 2) := by decide +kernel
theorem dX4_sea_66 : decode cX4_sea 66 = .ok (.iconst (-1), 1) := by decide +kernel
theorem dX4_sea_67 : decode cX4_sea 67 = .ok (.if_icmp .eq 9, 3) := by decide +kernel
theorem dX4_sea_70 : decode cX4_sea 70 = .ok (.bipush (-100), 2) := by decide +kernel
theorem dX4_sea_72 : decode cX4_sea 72 = .ok (.iload 7, 2) := by decide +kernel
theorem dX4_sea_74 : decode cX4_sea 74 = .ok (.isub, 1) := by decide +kernel
theorem dX4_sea_75 : decode cX4_sea 75 = .ok (.ireturn, 1) := by decide +kernel
theorem dX4_sea_76 : decode cX4_sea 76 = .ok (.aload_n 0, 1) := by decide +kernel
theorem dX4_sea_77 : decode cX4_sea 77 = .ok (.getfield 21, 3) := by decide +kernel
theorem dX4_sea_80 : decode cX4_sea 80 = .ok (.aload_n 0, 1) := by decide +kernel
theorem dX4_sea_81 : decode cX4_sea 81 = .ok (.getfield 32, 3) := by decide +kernel
theorem dX4_sea_84 : decode cX4_sea 84 = .ok (.iload 4, 2) := by decide +kernel
theorem dX4_sea_86 : decode cX4_sea 86 = .ok (.invokevirtual 62, 3) := by decide +kernel
theorem dX4_sea_89 : decode cX4_sea 89 = .ok (.aload_n 0, 1) := by decide +kernel
theorem dX4_sea_90 : decode cX4_sea 90 = .ok (.getfield 28, 3) := by decide +kernel
theorem dX4_sea_93 : decode cX4_sea 93 = .ok (.iconst 0, 1) := by decide +kernel
theorem dX4_sea_94 : decode cX4_sea 94 = .ok (.invokevirtual 66, 3) := by decide +kernel
theorem dX4_sea_97 : decode cX4_sea 97 = .ok (.aload_n 0, 1) := by decide +kernel
theorem dX4_sea_98 : decode cX4_sea 98 = .ok (.getfield 21, 3) := by decide +kernel
theorem dX4_sea_101 : decode cX4_sea 101 = .ok (.invokevirtual 70, 3) := by decide +kernel
theorem dX4_sea_104 : decode cX4_sea 104 = .ok (.ireturn, 1) := by decide +kernel
set_option maxRecDepth 20000 in
theorem tkX4_sea : ∀ q ∈ tbX4_sea, xOk (Zm false yX4_sea.name) RX4 cX4_sea 8 (some .int) pT pY q :=
  fa_c (ok_p (xg_load _ _ _) (x_aload_n dX4_sea_0 rfl)) <|
  fa_c (ok_p (xg_st _ _) (x_iconst dX4_sea_1 rfl)) <|
  fa_c (ok_p (xg_putf _ _ _ _) (x_putfof (C := RX4) (T := TX4) (N := 6) tyX4 tyX4_ok nmX4 rfl (by decide) inX4 kw156 dX4_sea_2 (tyX4_ok 5 (by decide)) (fun _ _ _ _ _ _ => Or.inl rfl))) <|
  fa_c (ok_p (xg_load _ _ _) (x_aload_n dX4_sea_5 rfl)) <|
  fa_c (ok_p (xg_load _ _ _) (x_iload_n dX4_sea_6 rfl)) <|
  fa_c (ok_c pT_102 pY_102 (x_callV (n := 1) (C := RX4) (T := TX4) (N := 6) rfl rfl kw174 kw176 kw0 kw59 kw177 (by decide +kernel) dX4_sea_7)) <|
  fa_c (ok_p (xg_store _ _ _) (x_astore dX4_sea_10)) <|
  fa_c (ok_p (xg_load _ _ _) (x_aload dX4_sea_12)) <|
  fa_c (ok_p (xg_null _ _) (x_ifnonnull dX4_sea_14 (by decide))) <|
  fa_c (ok_p (xg_st _ _) (x_iconst dX4_sea_17 rfl)) <|
  fa_c (ok_r ⟨rfl, dX4_sea_18⟩) <|
  fa_c (ok_p (xg_load _ _ _) (x_iload_n dX4_sea_19 rfl)) <|
  fa_c (ok_c pT_115 pY_115 (x_callS (n := 1) rfl kw178 kw179 kw59 kw180 (by decide +kernel) dX4_sea_20)) <|
  fa_c (ok_p (xg_if _ _ _) (x_if_ne dX4_sea_23 (by decide))) <|
  fa_c (ok_p (xg_st _ _) (x_bipush dX4_sea_26 rfl)) <|
  fa_c (ok_r ⟨rfl, dX4_sea_28⟩) <|
  fa_c (ok_p (xg_load _ _ _) (x_aload_n dX4_sea_29 rfl)) <|
  fa_c (ok_p (xg_load _ _ _) (x_aload dX4_sea_30)) <|
  fa_c (ok_p (xg_load _ _ _) (x_iload_n dX4_sea_32 rfl)) <|
  fa_c (ok_p (xg_load _ _ _) (x_iload_n dX4_sea_33 rfl)) <|
  fa_c (ok_p (xg_load _ _ _) (x_iload dX4_sea_34)) <|
  fa_c (ok_c pT_104 pY_104 (x_callV (n := 4) (C := RX4) (T := TX4) (N := 6) rfl rfl kw184 kw186 kw1 kw59 kw187 (by decide +kernel) dX4_sea_36)) <|
  fa_c (ok_p (xg_store _ _ _) (x_istore dX4_sea_39)) <|
  fa_c (ok_p (xg_load _ _ _) (x_iload dX4_sea_41)) <|
  fa_c (ok_p (xg_if _ _ _) (x_if_eq dX4_sea_43 (by decide))) <|
  fa_c (ok_p (xg_load _ _ _) (x_aload_n dX4_sea_46 rfl)) <|
  fa_c (ok_p (xg_load _ _ _) (x_iload dX4_sea_47)) <|
  fa_c (ok_c pT_103 pY_103 (x_callV (n := 1) (C := RX4) (T := TX4) (N := 6) rfl rfl kw213 kw215 kw2 kw59 kw216 (by decide +kernel) dX4_sea_49)) <|
  fa_c (ok_r ⟨rfl, dX4_sea_52⟩) <|
  fa_c (ok_p (xg_load _ _ _) (x_aload_n dX4_sea_53 rfl)) <|
  fa_c (ok_p (xg_getf _ _ _) (x_getf (C := RX4) (T := TX4) (N := 6) rfl (by decide) inX4 kw154 dX4_sea_54)) <|
  fa_c (ok_p (xg_load _ _ _) (x_iload dX4_sea_57)) <|
  fa_c (ok_c pT_53 pY_53 (x_callS (n := 2) rfl kw217 kw218 kw64 kw219 (by decide +kernel) dX4_sea_59)) <|
  fa_c (ok_p (xg_store _ _ _) (x_istore dX4_sea_62)) <|
  fa_c (ok_p (xg_load _ _ _) (x_iload dX4_sea_64)) <|
  fa_c (ok_p (xg_st _ _) (x_iconst dX4_sea_66 rfl)) <|
  fa_c (ok_p (xg_icmp _ _ _) (x_icmp_eq dX4_sea_67 (by decide))) <|
  fa_c (ok_p (xg_st _ _) (x_bipush dX4_sea_70 rfl)) <|
  fa_c (ok_p (xg_load _ _ _) (x_iload dX4_sea_72)) <|
  fa_c (ok_p (xg_st _ _) (x_isub dX4_sea_74)) <|
  fa_c (ok_r ⟨rfl, dX4_sea_75⟩) <|
  fa_c (ok_p (xg_load _ _ _) (x_aload_n dX4_sea_76 rfl)) <|
  fa_c (ok_p (xg_getf _ _ _) (x_getf (C := RX4) (T := TX4) (N := 6) rfl (by decide) inX4 kw152 dX4_sea_77)) <|
  fa_c (ok_p (xg_load _ _ _) (x_aload_n dX4_sea_80 rfl)) <|
  fa_c (ok_p (xg_getf _ _ _) (x_getf (C := RX4) (T := TX4) (N := 6) rfl (by decide) inX4 kw154 dX4_sea_81)) <|
  fa_c (ok_p (xg_load _ _ _) (x_iload dX4_sea_84)) <|
  fa_c (ok_c pT_7 pY_7 (x_callV (n := 2) (C := RX1) (T := TX1) (N := 10) rfl rfl kw243 kw244 kw245 kw61 kw246 (by decide +kernel) dX4_sea_86)) <|
  fa_c (ok_p (xg_load _ _ _) (x_aload_n dX4_sea_89 rfl)) <|
  fa_c (ok_p (xg_getf _ _ _) (x_getf (C := RX4) (T := TX4) (N := 6) rfl (by decide) inX4 kw153 dX4_sea_90)) <|
  fa_c (ok_p (xg_st _ _) (x_iconst dX4_sea_93 rfl)) <|
  fa_c (ok_c pT_4 pY_4 (x_callV (n := 1) (C := RX0) (T := TX0) (N := 4) rfl rfl kw267 kw268 kw269 kw62 kw270 (by decide +kernel) dX4_sea_94)) <|
  fa_c (ok_p (xg_load _ _ _) (x_aload_n dX4_sea_97 rfl)) <|
  fa_c (ok_p (xg_getf _ _ _) (x_getf (C := RX4) (T := TX4) (N := 6) rfl (by decide) inX4 kw152 dX4_sea_98)) <|
  fa_c (ok_c pT_11 pY_11 (x_callV (n := 0) (C := RX1) (T := TX1) (N := 10) rfl rfl kw271 kw272 kw273 kw61 kw274 (by decide +kernel) dX4_sea_101)) <|
  fa_c (ok_r ⟨rfl, dX4_sea_104⟩) <|
  fa_n
theorem dX4_ofLooker_0 : decode cX4_ofLooker 0 = .ok (.aload_n 0, 1) := by decide +kernel
theorem dX4_ofLooker_1 : decode cX4_ofLooker 1 = .ok (.getfield 21, 3) := by decide +kernel
theorem dX4_ofLooker_4 : decode cX4_ofLooker 4 = .ok (.iload_n 1, 1) := by decide +kernel
theorem dX4_ofLooker_5 : decode cX4_ofLooker 5 = .ok (.invokevirtual 74, 3) := by decide +kernel
theorem dX4_ofLooker_8 : decode cX4_ofLooker 8 = .ok (.ifCond .ne 5, 3) := by decide +kernel
theorem dX4_ofLooker_11 : decode cX4_ofLooker 11 = .ok (.iconst (-1), 1) := by decide +kernel
theorem dX4_ofLooker_12 : decode cX4_ofLooker 12 = .ok (.ireturn, 1) := by decide +kernel
theorem dX4_ofLooker_13 : decode cX4_ofLooker 13 = .ok (.iload_n 2, 1) := by decide +kernel
theorem dX4_ofLooker_14 : decode cX4_ofLooker 14 = .ok (.tableswitch 97 0 4 #[34, 43, 52, 69, 79], 34) := by decide +kernel
theorem dX4_ofLooker_48 : decode cX4_ofLooker 48 = .ok (.aload_n 0, 1) := by decide +kernel
theorem dX4_ofLooker_49 : decode cX4_ofLooker 49 = .ok (.getfield 21, 3) := by decide +kernel
theorem dX4_ofLooker_52 : decode cX4_ofLooker 52 = .ok (.iload_n 1, 1) := by decide +kernel
theorem dX4_ofLooker_53 : decode cX4_ofLooker 53 = .ok (.invokevirtual 77, 3) := by decide +kernel
theorem dX4_ofLooker_56 : decode cX4_ofLooker 56 = .ok (.ireturn, 1) := by decide +kernel
theorem dX4_ofLooker_57 : decode cX4_ofLooker 57 = .ok (.aload_n 0, 1) := by decide +kernel
theorem dX4_ofLooker_58 : decode cX4_ofLooker 58 = .ok (.getfield 21, 3) := by decide +kernel
theorem dX4_ofLooker_61 : decode cX4_ofLooker 61 = .ok (.iload_n 1, 1) := by decide +kernel
theorem dX4_ofLooker_62 : decode cX4_ofLooker 62 = .ok (.invokevirtual 80, 3) := by decide +kernel
theorem dX4_ofLooker_65 : decode cX4_ofLooker 65 = .ok (.ireturn, 1) := by decide +kernel
theorem dX4_ofLooker_66 : decode cX4_ofLooker 66 = .ok (.aload_n 0, 1) := by decide +kernel
theorem dX4_ofLooker_67 : decode cX4_ofLooker 67 = .ok (.getfield 21, 3) := by decide +kernel
theorem dX4_ofLooker_70 : decode cX4_ofLooker 70 = .ok (.iload_n 1, 1) := by decide +kernel
theorem dX4_ofLooker_71 : decode cX4_ofLooker 71 = .ok (.invokevirtual 83, 3) := by decide +kernel
theorem dX4_ofLooker_74 : decode cX4_ofLooker 74 = .ok (.ifCond .eq 7, 3) := by decide +kernel
theorem dX4_ofLooker_77 : decode cX4_ofLooker 77 = .ok (.iconst 1, 1) := by decide +kernel
theorem dX4_ofLooker_78 : decode cX4_ofLooker 78 = .ok (.goto 4, 3) := by decide +kernel
theorem dX4_ofLooker_81 : decode cX4_ofLooker 81 = .ok (.iconst 0, 1) := by decide +kernel
theorem dX4_ofLooker_82 : decode cX4_ofLooker 82 = .ok (.ireturn, 1) := by decide +kernel
theorem dX4_ofLooker_83 : decode cX4_ofLooker 83 = .ok (.aload_n 0, 1) := by decide +kernel
theorem dX4_ofLooker_84 : decode cX4_ofLooker 84 = .ok (.getfield 21, 3) := by decide +kernel
theorem dX4_ofLooker_87 : decode cX4_ofLooker 87 = .ok (.invokevirtual 86, 3) := by decide +kernel
theorem dX4_ofLooker_90 : decode cX4_ofLooker 90 = .ok (.iload_n 1, 1) := by decide +kernel
theorem dX4_ofLooker_91 : decode cX4_ofLooker 91 = .ok (.iadd, 1) := by decide +kernel
theorem dX4_ofLooker_92 : decode cX4_ofLooker 92 = .ok (.ireturn, 1) := by decide +kernel
theorem dX4_ofLooker_93 : decode cX4_ofLooker 93 = .ok (.aload_n 0, 1) := by decide +kernel
theorem dX4_ofLooker_94 : decode cX4_ofLooker 94 = .ok (.getfield 21, 3) := by decide +kernel
theorem dX4_ofLooker_97 : decode cX4_ofLooker 97 = .ok (.iload_n 1, 1) := by decide +kernel
theorem dX4_ofLooker_98 : decode cX4_ofLooker 98 = .ok (.aload_n 0, 1) := by decide +kernel
theorem dX4_ofLooker_99 : decode cX4_ofLooker 99 = .ok (.getfield 21, 3) := by decide +kernel
theorem dX4_ofLooker_102 : decode cX4_ofLooker 102 = .ok (.invokevirtual 86, 3) := by decide +kernel
theorem dX4_ofLooker_105 : decode cX4_ofLooker 105 = .ok (.iload_n 1, 1) := by decide +kernel
theorem dX4_ofLooker_106 : decode cX4_ofLooker 106 = .ok (.iadd, 1) := by decide +kernel
theorem dX4_ofLooker_107 : decode cX4_ofLooker 107 = .ok (.invokevirtual 89, 3) := by decide +kernel
theorem dX4_ofLooker_110 : decode cX4_ofLooker 110 = .ok (.ireturn, 1) := by decide +kernel
theorem dX4_ofLooker_111 : decode cX4_ofLooker 111 = .ok (.bipush (-2), 2) := by decide +kernel
theorem dX4_ofLooker_113 : decode cX4_ofLooker 113 = .ok (.ireturn, 1) := by decide +kernel
set_option maxRecDepth 20000 in
theorem tkX4_ofLooker : ∀ q ∈ tbX4_ofLooker, xOk (Zm false yX4_ofLooker.name) RX4 cX4_ofLooker 3 (some .int) pT pY q :=
  fa_c (ok_p (xg_load _ _ _) (x_aload_n dX4_ofLooker_0 rfl)) <|
  fa_c (ok_p (xg_getf _ _ _) (x_getf (C := RX4) (T := TX4) (N := 6) rfl (by decide) inX4 kw152 dX4_ofLooker_1)) <|
  fa_c (ok_p (xg_load _ _ _) (x_iload_n dX4_ofLooker_4 rfl)) <|
  fa_c (ok_c pT_17 pY_17 (x_callV (n := 1) (C := RX1) (T := TX1) (N := 10) rfl rfl kw279 kw280 kw281 kw61 kw282 (by decide +kernel) dX4_ofLooker_5)) <|
  fa_c (ok_p (xg_if _ _ _) (x_if_ne dX4_ofLooker_8 (by decide))) <|
  fa_c (ok_p (xg_st _ _) (x_iconst dX4_ofLooker_11 rfl)) <|
  fa_c (ok_r ⟨rfl, dX4_ofLooker_12⟩) <|
  fa_c (ok_p (xg_load _ _ _) (x_iload_n dX4_ofLooker_13 rfl)) <|
  fa_c (ok_p (xg_sw _ _) (x_tsw dX4_ofLooker_14 (by decide) (by decide +kernel) (by decide +kernel))) <|
  fa_c (ok_p (xg_load _ _ _) (x_aload_n dX4_ofLooker_48 rfl)) <|
  fa_c (ok_p (xg_getf _ _ _) (x_getf (C := RX4) (T := TX4) (N := 6) rfl (by decide) inX4 kw152 dX4_ofLooker_49)) <|
  fa_c (ok_p (xg_load _ _ _) (x_iload_n dX4_ofLooker_52 rfl)) <|
  fa_c (ok_c pT_20 pY_20 (x_callV (n := 1) (C := RX1) (T := TX1) (N := 10) rfl rfl kw283 kw284 kw285 kw61 kw286 (by decide +kernel) dX4_ofLooker_53)) <|
  fa_c (ok_r ⟨rfl, dX4_ofLooker_56⟩) <|
  fa_c (ok_p (xg_load _ _ _) (x_aload_n dX4_ofLooker_57 rfl)) <|
  fa_c (ok_p (xg_getf _ _ _) (x_getf (C := RX4) (T := TX4) (N := 6) rfl (by decide) inX4 kw152 dX4_ofLooker_58)) <|
  fa_c (ok_p (xg_load _ _ _) (x_iload_n dX4_ofLooker_61 rfl)) <|
  fa_c (ok_c pT_21 pY_21 (x_callV (n := 1) (C := RX1) (T := TX1) (N := 10) rfl rfl kw287 kw288 kw289 kw61 kw290 (by decide +kernel) dX4_ofLooker_62)) <|
  fa_c (ok_r ⟨rfl, dX4_ofLooker_65⟩) <|
  fa_c (ok_p (xg_load _ _ _) (x_aload_n dX4_ofLooker_66 rfl)) <|
  fa_c (ok_p (xg_getf _ _ _) (x_getf (C := RX4) (T := TX4) (N := 6) rfl (by decide) inX4 kw152 dX4_ofLooker_67)) <|
  fa_c (ok_p (xg_load _ _ _) (x_iload_n dX4_ofLooker_70 rfl)) <|
  fa_c (ok_c pT_23 pY_23 (x_callV (n := 1) (C := RX1) (T := TX1) (N := 10) rfl rfl kw291 kw292 kw293 kw61 kw294 (by decide +kernel) dX4_ofLooker_71)) <|
  fa_c (ok_p (xg_if _ _ _) (x_if_eq dX4_ofLooker_74 (by decide))) <|
  fa_c (ok_p (xg_st _ _) (x_iconst dX4_ofLooker_77 rfl)) <|
  fa_c (ok_p (xg_st _ _) (x_goto dX4_ofLooker_78 (by decide))) <|
  fa_c (ok_p (xg_st _ _) (x_iconst dX4_ofLooker_81 rfl)) <|
  fa_c (ok_r ⟨rfl, dX4_ofLooker_82⟩) <|
  fa_c (ok_p (xg_load _ _ _) (x_aload_n dX4_ofLooker_83 rfl)) <|
  fa_c (ok_p (xg_getf _ _ _) (x_getf (C := RX4) (T := TX4) (N := 6) rfl (by decide) inX4 kw152 dX4_ofLooker_84)) <|
  fa_c (ok_c pT_12 pY_12 (x_callV (n := 0) (C := RX1) (T := TX1) (N := 10) rfl rfl kw295 kw296 kw297 kw61 kw298 (by decide +kernel) dX4_ofLooker_87)) <|
  fa_c (ok_p (xg_load _ _ _) (x_iload_n dX4_ofLooker_90 rfl)) <|
  fa_c (ok_p (xg_st _ _) (x_iadd dX4_ofLooker_91)) <|
  fa_c (ok_r ⟨rfl, dX4_ofLooker_92⟩) <|
  fa_c (ok_p (xg_load _ _ _) (x_aload_n dX4_ofLooker_93 rfl)) <|
  fa_c (ok_p (xg_getf _ _ _) (x_getf (C := RX4) (T := TX4) (N := 6) rfl (by decide) inX4 kw152 dX4_ofLooker_94)) <|
  fa_c (ok_p (xg_load _ _ _) (x_iload_n dX4_ofLooker_97 rfl)) <|
  fa_c (ok_p (xg_load _ _ _) (x_aload_n dX4_ofLooker_98 rfl)) <|
  fa_c (ok_p (xg_getf _ _ _) (x_getf (C := RX4) (T := TX4) (N := 6) rfl (by decide) inX4 kw152 dX4_ofLooker_99)) <|
  fa_c (ok_c pT_12 pY_12 (x_callV (n := 0) (C := RX1) (T := TX1) (N := 10) rfl rfl kw295 kw296 kw297 kw61 kw298 (by decide +kernel) dX4_ofLooker_102)) <|
  fa_c (ok_p (xg_load _ _ _) (x_iload_n dX4_ofLooker_105 rfl)) <|
  fa_c (ok_p (xg_st _ _) (x_iadd dX4_ofLooker_106)) <|
  fa_c (ok_c pT_29 pY_29 (x_callV (n := 2) (C := RX1) (T := TX1) (N := 10) rfl rfl kw299 kw300 kw301 kw61 kw302 (by decide +kernel) dX4_ofLooker_107)) <|
  fa_c (ok_r ⟨rfl, dX4_ofLooker_110⟩) <|
  fa_c (ok_p (xg_st _ _) (x_bipush dX4_ofLooker_111 rfl)) <|
  fa_c (ok_r ⟨rfl, dX4_ofLooker_113⟩) <|
  fa_n
theorem dX4_height_0 : decode cX4_height 0 = .ok (.aload_n 0, 1) := by decide +kernel
theorem dX4_height_1 : decode cX4_height 1 = .ok (.getfield 21, 3) := by decide +kernel
theorem dX4_height_4 : decode cX4_height 4 = .ok (.iload_n 1, 1) := by decide +kernel
theorem dX4_height_5 : decode cX4_height 5 = .ok (.invokevirtual 93, 3) := by decide +kernel
theorem dX4_height_8 : decode cX4_height 8 = .ok (.ifCond .eq 14, 3) := by decide +kernel
theorem dX4_height_11 : decode cX4_height 11 = .ok (.aload_n 0, 1) := by decide +kernel
theorem dX4_height_12 : decode cX4_height 12 = .ok (.getfield 21, 3) := by decide +kernel
theorem dX4_height_15 : decode cX4_height 15 = .ok (.iload_n 1, 1) := by decide +kernel
theorem dX4_height_16 : decode cX4_height 16 = .ok (.invokevirtual 96, 3) := by decide +kernel
theorem dX4_height_19 : decode cX4_height 19 = .ok (.goto 4, 3) := by decide +kernel
theorem dX4_height_22 : decode cX4_height 22 = .ok (.iconst (-1), 1) := by decide +kernel
theorem dX4_height_23 : decode cX4_height 23 = .ok (.ireturn, 1) := by decide +kernel
set_option maxRecDepth 20000 in
theorem tkX4_height : ∀ q ∈ tbX4_height, xOk (Zm false yX4_height.name) RX4 cX4_height 2 (some .int) pT pY q :=
  fa_c (ok_p (xg_load _ _ _) (x_aload_n dX4_height_0 rfl)) <|
  fa_c (ok_p (xg_getf _ _ _) (x_getf (C := RX4) (T := TX4) (N := 6) rfl (by decide) inX4 kw152 dX4_height_1)) <|
  fa_c (ok_p (xg_load _ _ _) (x_iload_n dX4_height_4 rfl)) <|
  fa_c (ok_c pT_16 pY_16 (x_callV (n := 1) (C := RX1) (T := TX1) (N := 10) rfl rfl kw319 kw320 kw321 kw61 kw322 (by decide +kernel) dX4_height_5)) <|
  fa_c (ok_p (xg_if _ _ _) (x_if_eq dX4_height_8 (by decide))) <|
  fa_c (ok_p (xg_load _ _ _) (x_aload_n dX4_height_11 rfl)) <|
  fa_c (ok_p (xg_getf _ _ _) (x_getf (C := RX4) (T := TX4) (N := 6) rfl (by decide) inX4 kw152 dX4_height_12)) <|
  fa_c (ok_p (xg_load _ _ _) (x_iload_n dX4_height_15 rfl)) <|
  fa_c (ok_c pT_18 pY_18 (x_callV (n := 1) (C := RX1) (T := TX1) (N := 10) rfl rfl kw323 kw306 kw307 kw61 kw308 (by decide +kernel) dX4_height_16)) <|
  fa_c (ok_p (xg_st _ _) (x_goto dX4_height_19 (by decide))) <|
  fa_c (ok_p (xg_st _ _) (x_iconst dX4_height_22 rfl)) <|
  fa_c (ok_r ⟨rfl, dX4_height_23⟩) <|
  fa_n
theorem dX4_heap_0 : decode cX4_heap 0 = .ok (.aload_n 0, 1) := by decide +kernel
theorem dX4_heap_1 : decode cX4_heap 1 = .ok (.getfield 21, 3) := by decide +kernel
theorem dX4_heap_4 : decode cX4_heap 4 = .ok (.iload_n 1, 1) := by decide +kernel
theorem dX4_heap_5 : decode cX4_heap 5 = .ok (.invokevirtual 93, 3) := by decide +kernel
theorem dX4_heap_8 : decode cX4_heap 8 = .ok (.ifCond .ne 5, 3) := by decide +kernel
theorem dX4_heap_11 : decode cX4_heap 11 = .ok (.iconst (-1), 1) := by decide +kernel
theorem dX4_heap_12 : decode cX4_heap 12 = .ok (.ireturn, 1) := by decide +kernel
theorem dX4_heap_13 : decode cX4_heap 13 = .ok (.iload_n 2, 1) := by decide +kernel
theorem dX4_heap_14 : decode cX4_heap 14 = .ok (.invokestatic 99, 3) := by decide +kernel
theorem dX4_heap_17 : decode cX4_heap 17 = .ok (.ifCond .ne 6, 3) := by decide +kernel
theorem dX4_heap_20 : decode cX4_heap 20 = .ok (.bipush (-2), 2) := by decide +kernel
theorem dX4_heap_22 : decode cX4_heap 22 = .ok (.ireturn, 1) := by decide +kernel
theorem dX4_heap_23 : decode cX4_heap 23 = .ok (.aload_n 0, 1) := by decide +kernel
theorem dX4_heap_24 : decode cX4_heap 24 = .ok (.getfield 21, 3) := by decide +kernel
theorem dX4_heap_27 : decode cX4_heap 27 = .ok (.iload_n 1, 1) := by decide +kernel
theorem dX4_heap_28 : decode cX4_heap 28 = .ok (.invokevirtual 96, 3) := by decide +kernel
theorem dX4_heap_31 : decode cX4_heap 31 = .ok (.istore_n 3, 1) := by decide +kernel
theorem dX4_heap_32 : decode cX4_heap 32 = .ok (.aload_n 0, 1) := by decide +kernel
theorem dX4_heap_33 : decode cX4_heap 33 = .ok (.getfield 21, 3) := by decide +kernel
theorem dX4_heap_36 : decode cX4_heap 36 = .ok (.iload_n 1, 1) := by decide +kernel
theorem dX4_heap_37 : decode cX4_heap 37 = .ok (.iload_n 2, 1) := by decide +kernel
theorem dX4_heap_38 : decode cX4_heap 38 = .ok (.invokevirtual 102, 3) := by decide +kernel
theorem dX4_heap_41 : decode cX4_heap 41 = .ok (.iload_n 3, 1) := by decide +kernel
theorem dX4_heap_42 : decode cX4_heap 42 = .ok (.ireturn, 1) := by decide +kernel
set_option maxRecDepth 20000 in
theorem tkX4_heap : ∀ q ∈ tbX4_heap, xOk (Zm false yX4_heap.name) RX4 cX4_heap 4 (some .int) pT pY q :=
  fa_c (ok_p (xg_load _ _ _) (x_aload_n dX4_heap_0 rfl)) <|
  fa_c (ok_p (xg_getf _ _ _) (x_getf (C := RX4) (T := TX4) (N := 6) rfl (by decide) inX4 kw152 dX4_heap_1)) <|
  fa_c (ok_p (xg_load _ _ _) (x_iload_n dX4_heap_4 rfl)) <|
  fa_c (ok_c pT_16 pY_16 (x_callV (n := 1) (C := RX1) (T := TX1) (N := 10) rfl rfl kw319 kw320 kw321 kw61 kw322 (by decide +kernel) dX4_heap_5)) <|
  fa_c (ok_p (xg_if _ _ _) (x_if_ne dX4_heap_8 (by decide))) <|
  fa_c (ok_p (xg_st _ _) (x_iconst dX4_heap_11 rfl)) <|
  fa_c (ok_r ⟨rfl, dX4_heap_12⟩) <|
  fa_c (ok_p (xg_load _ _ _) (x_iload_n dX4_heap_13 rfl)) <|
  fa_c (ok_c pT_117 pY_117 (x_callS (n := 1) rfl kw328 kw329 kw59 kw330 (by decide +kernel) dX4_heap_14)) <|
  fa_c (ok_p (xg_if _ _ _) (x_if_ne dX4_heap_17 (by decide))) <|
  fa_c (ok_p (xg_st _ _) (x_bipush dX4_heap_20 rfl)) <|
  fa_c (ok_r ⟨rfl, dX4_heap_22⟩) <|
  fa_c (ok_p (xg_load _ _ _) (x_aload_n dX4_heap_23 rfl)) <|
  fa_c (ok_p (xg_getf _ _ _) (x_getf (C := RX4) (T := TX4) (N := 6) rfl (by decide) inX4 kw152 dX4_heap_24)) <|
  fa_c (ok_p (xg_load _ _ _) (x_iload_n dX4_heap_27 rfl)) <|
  fa_c (ok_c pT_18 pY_18 (x_callV (n := 1) (C := RX1) (T := TX1) (N := 10) rfl rfl kw323 kw306 kw307 kw61 kw308 (by decide +kernel) dX4_heap_28)) <|
  fa_c (ok_p (xg_store _ _ _) (x_istore_n dX4_heap_31 rfl)) <|
  fa_c (ok_p (xg_load _ _ _) (x_aload_n dX4_heap_32 rfl)) <|
  fa_c (ok_p (xg_getf _ _ _) (x_getf (C := RX4) (T := TX4) (N := 6) rfl (by decide) inX4 kw152 dX4_heap_33)) <|
  fa_c (ok_p (xg_load _ _ _) (x_iload_n dX4_heap_36 rfl)) <|
  fa_c (ok_p (xg_load _ _ _) (x_iload_n dX4_heap_37 rfl)) <|
  fa_c (ok_c pT_19 pY_19 (x_callV (n := 2) (C := RX1) (T := TX1) (N := 10) rfl rfl kw331 kw254 kw255 kw61 kw256 (by decide +kernel) dX4_heap_38)) <|
  fa_c (ok_p (xg_load _ _ _) (x_iload_n dX4_heap_41 rfl)) <|
  fa_c (ok_r ⟨rfl, dX4_heap_42⟩) <|
  fa_n
theorem dX4_dim_0 : decode cX4_dim 0 = .ok (.aload_n 0, 1) := by decide +kernel
theorem dX4_dim_1 : decode cX4_dim 1 = .ok (.getfield 21, 3) := by decide +kernel
theorem dX4_dim_4 : decode cX4_dim 4 = .ok (.iload_n 1, 1) := by decide +kernel
theorem dX4_dim_5 : decode cX4_dim 5 = .ok (.invokevirtual 74, 3) := by decide +kernel
theorem dX4_dim_8 : decode cX4_dim 8 = .ok (.ifCond .ne 5, 3) := by decide +kernel
theorem dX4_dim_11 : decode cX4_dim 11 = .ok (.iconst (-1), 1) := by decide +kernel
theorem dX4_dim_12 : decode cX4_dim 12 = .ok (.ireturn, 1) := by decide +kernel
theorem dX4_dim_13 : decode cX4_dim 13 = .ok (.iload_n 2, 1) := by decide +kernel
theorem dX4_dim_14 : decode cX4_dim 14 = .ok (.invokestatic 99, 3) := by decide +kernel
theorem dX4_dim_17 : decode cX4_dim 17 = .ok (.ifCond .ne 6, 3) := by decide +kernel
theorem dX4_dim_20 : decode cX4_dim 20 = .ok (.bipush (-2), 2) := by decide +kernel
theorem dX4_dim_22 : decode cX4_dim 22 = .ok (.ireturn, 1) := by decide +kernel
theorem dX4_dim_23 : decode cX4_dim 23 = .ok (.aload_n 0, 1) := by decide +kernel
theorem dX4_dim_24 : decode cX4_dim 24 = .ok (.getfield 21, 3) := by decide +kernel
theorem dX4_dim_27 : decode cX4_dim 27 = .ok (.iload_n 1, 1) := by decide +kernel
theorem dX4_dim_28 : decode cX4_dim 28 = .ok (.invokevirtual 80, 3) := by decide +kernel
theorem dX4_dim_31 : decode cX4_dim 31 = .ok (.istore_n 3, 1) := by decide +kernel
theorem dX4_dim_32 : decode cX4_dim 32 = .ok (.aload_n 0, 1) := by decide +kernel
theorem dX4_dim_33 : decode cX4_dim 33 = .ok (.getfield 21, 3) := by decide +kernel
theorem dX4_dim_36 : decode cX4_dim 36 = .ok (.iload_n 1, 1) := by decide +kernel
theorem dX4_dim_37 : decode cX4_dim 37 = .ok (.iload_n 2, 1) := by decide +kernel
theorem dX4_dim_38 : decode cX4_dim 38 = .ok (.invokevirtual 106, 3) := by decide +kernel
theorem dX4_dim_41 : decode cX4_dim 41 = .ok (.iload_n 3, 1) := by decide +kernel
theorem dX4_dim_42 : decode cX4_dim 42 = .ok (.ireturn, 1) := by decide +kernel
set_option maxRecDepth 20000 in
theorem tkX4_dim : ∀ q ∈ tbX4_dim, xOk (Zm false yX4_dim.name) RX4 cX4_dim 4 (some .int) pT pY q :=
  fa_c (ok_p (xg_load _ _ _) (x_aload_n dX4_dim_0 rfl)) <|
  fa_c (ok_p (xg_getf _ _ _) (x_getf (C := RX4) (T := TX4) (N := 6) rfl (by decide) inX4 kw152 dX4_dim_1)) <|
  fa_c (ok_p (xg_load _ _ _) (x_iload_n dX4_dim_4 rfl)) <|
  fa_c (ok_c pT_17 pY_17 (x_callV (n := 1) (C := RX1) (T := TX1) (N := 10) rfl rfl kw279 kw280 kw281 kw61 kw282 (by decide +kernel) dX4_dim_5)) <|
  fa_c (ok_p (xg_if _ _ _) (x_if_ne dX4_dim_8 (by decide))) <|
  fa_c (ok_p (xg_st _ _) (x_iconst dX4_dim_11 rfl)) <|
  fa_c (ok_r ⟨rfl, dX4_dim_12⟩) <|
  fa_c (ok_p (xg_load _ _ _) (x_iload_n dX4_dim_13 rfl)) <|
  fa_c (ok_c pT_117 pY_117 (x_callS (n := 1) rfl kw328 kw329 kw59 kw330 (by decide +kernel) dX4_dim_14)) <|
  fa_c (ok_p (xg_if _ _ _) (x_if_ne dX4_dim_17 (by decide))) <|
  fa_c (ok_p (xg_st _ _) (x_bipush dX4_dim_20 rfl)) <|
  fa_c (ok_r ⟨rfl, dX4_dim_22⟩) <|
  fa_c (ok_p (xg_load _ _ _) (x_aload_n dX4_dim_23 rfl)) <|
  fa_c (ok_p (xg_getf _ _ _) (x_getf (C := RX4) (T := TX4) (N := 6) rfl (by decide) inX4 kw152 dX4_dim_24)) <|
  fa_c (ok_p (xg_load _ _ _) (x_iload_n dX4_dim_27 rfl)) <|
  fa_c (ok_c pT_21 pY_21 (x_callV (n := 1) (C := RX1) (T := TX1) (N := 10) rfl rfl kw287 kw288 kw289 kw61 kw290 (by decide +kernel) dX4_dim_28)) <|
  fa_c (ok_p (xg_store _ _ _) (x_istore_n dX4_dim_31 rfl)) <|
  fa_c (ok_p (xg_load _ _ _) (x_aload_n dX4_dim_32 rfl)) <|
  fa_c (ok_p (xg_getf _ _ _) (x_getf (C := RX4) (T := TX4) (N := 6) rfl (by decide) inX4 kw152 dX4_dim_33)) <|
  fa_c (ok_p (xg_load _ _ _) (x_iload_n dX4_dim_36 rfl)) <|
  fa_c (ok_p (xg_load _ _ _) (x_iload_n dX4_dim_37 rfl)) <|
  fa_c (ok_c pT_22 pY_22 (x_callV (n := 2) (C := RX1) (T := TX1) (N := 10) rfl rfl kw336 kw260 kw261 kw61 kw262 (by decide +kernel) dX4_dim_38)) <|
  fa_c (ok_p (xg_load _ _ _) (x_iload_n dX4_dim_41 rfl)) <|
  fa_c (ok_r ⟨rfl, dX4_dim_42⟩) <|
  fa_n
theorem dX4_scrape_0 : decode cX4_scrape 0 = .ok (.aload_n 0, 1) := by decide +kernel
theorem dX4_scrape_1 : decode cX4_scrape 1 = .ok (.getfield 21, 3) := by decide +kernel
theorem dX4_scrape_4 : decode cX4_scrape 4 = .ok (.iload_n 1, 1) := by decide +kernel
theorem dX4_scrape_5 : decode cX4_scrape 5 = .ok (.invokevirtual 74, 3) := by decide +kernel
theorem dX4_scrape_8 : decode cX4_scrape 8 = .ok (.ifCond .ne 5, 3) := by decide +kernel
theorem dX4_scrape_11 : decode cX4_scrape 11 = .ok (.iconst (-1), 1) := by decide +kernel
theorem dX4_scrape_12 : decode cX4_scrape 12 = .ok (.ireturn, 1) := by decide +kernel
theorem dX4_scrape_13 : decode cX4_scrape 13 = .ok (.aload_n 0, 1) := by decide +kernel
theorem dX4_scrape_14 : decode cX4_scrape 14 = .ok (.getfield 21, 3) := by decide +kernel
theorem dX4_scrape_17 : decode cX4_scrape 17 = .ok (.iload_n 1, 1) := by decide +kernel
theorem dX4_scrape_18 : decode cX4_scrape 18 = .ok (.invokevirtual 83, 3) := by decide +kernel
theorem dX4_scrape_21 : decode cX4_scrape 21 = .ok (.ifCond .eq 6, 3) := by decide +kernel
theorem dX4_scrape_24 : decode cX4_scrape 24 = .ok (.bipush (-3), 2) := by decide +kernel
theorem dX4_scrape_26 : decode cX4_scrape 26 = .ok (.ireturn, 1) := by decide +kernel
theorem dX4_scrape_27 : decode cX4_scrape 27 = .ok (.aload_n 0, 1) := by decide +kernel
theorem dX4_scrape_28 : decode cX4_scrape 28 = .ok (.getfield 21, 3) := by decide +kernel
theorem dX4_scrape_31 : decode cX4_scrape 31 = .ok (.iload_n 1, 1) := by decide +kernel
theorem dX4_scrape_32 : decode cX4_scrape 32 = .ok (.invokevirtual 109, 3) := by decide +kernel
theorem dX4_scrape_35 : decode cX4_scrape 35 = .ok (.aload_n 0, 1) := by decide +kernel
theorem dX4_scrape_36 : decode cX4_scrape 36 = .ok (.getfield 21, 3) := by decide +kernel
theorem dX4_scrape_39 : decode cX4_scrape 39 = .ok (.invokevirtual 112, 3) := by decide +kernel
theorem dX4_scrape_42 : decode cX4_scrape 42 = .ok (.ireturn, 1) := by decide +kernel
set_option maxRecDepth 20000 in
theorem tkX4_scrape : ∀ q ∈ tbX4_scrape, xOk (Zm false yX4_scrape.name) RX4 cX4_scrape 2 (some .int) pT pY q :=
  fa_c (ok_p (xg_load _ _ _) (x_aload_n dX4_scrape_0 rfl)) <|
  fa_c (ok_p (xg_getf _ _ _) (x_getf (C := RX4) (T := TX4) (N := 6) rfl (by decide) inX4 kw152 dX4_scrape_1)) <|
  fa_c (ok_p (xg_load _ _ _) (x_iload_n dX4_scrape_4 rfl)) <|
  fa_c (ok_c pT_17 pY_17 (x_callV (n := 1) (C := RX1) (T := TX1) (N := 10) rfl rfl kw279 kw280 kw281 kw61 kw282 (by decide +kernel) dX4_scrape_5)) <|
  fa_c (ok_p (xg_if _ _ _) (x_if_ne dX4_scrape_8 (by decide))) <|
  fa_c (ok_p (xg_st _ _) (x_iconst dX4_scrape_11 rfl)) <|
  fa_c (ok_r ⟨rfl, dX4_scrape_12⟩) <|
  fa_c (ok_p (xg_load _ _ _) (x_aload_n dX4_scrape_13 rfl)) <|
  fa_c (ok_p (xg_getf _ _ _) (x_getf (C := RX4) (T := TX4) (N := 6) rfl (by decide) inX4 kw152 dX4_scrape_14)) <|
  fa_c (ok_p (xg_load _ _ _) (x_iload_n dX4_scrape_17 rfl)) <|
  fa_c (ok_c pT_23 pY_23 (x_callV (n := 1) (C := RX1) (T := TX1) (N := 10) rfl rfl kw291 kw292 kw293 kw61 kw294 (by decide +kernel) dX4_scrape_18)) <|
  fa_c (ok_p (xg_if _ _ _) (x_if_eq dX4_scrape_21 (by decide))) <|
  fa_c (ok_p (xg_st _ _) (x_bipush dX4_scrape_24 rfl)) <|
  fa_c (ok_r ⟨rfl, dX4_scrape_26⟩) <|
  fa_c (ok_p (xg_load _ _ _) (x_aload_n dX4_scrape_27 rfl)) <|
  fa_c (ok_p (xg_getf _ _ _) (x_getf (C := RX4) (T := TX4) (N := 6) rfl (by decide) inX4 kw152 dX4_scrape_28)) <|
  fa_c (ok_p (xg_load _ _ _) (x_iload_n dX4_scrape_31 rfl)) <|
  fa_c (ok_c pT_25 pY_25 (x_callV (n := 1) (C := RX1) (T := TX1) (N := 10) rfl rfl kw341 kw342 kw343 kw61 kw344 (by decide +kernel) dX4_scrape_32)) <|
  fa_c (ok_p (xg_load _ _ _) (x_aload_n dX4_scrape_35 rfl)) <|
  fa_c (ok_p (xg_getf _ _ _) (x_getf (C := RX4) (T := TX4) (N := 6) rfl (by decide) inX4 kw152 dX4_scrape_36)) <|
  fa_c (ok_c pT_24 pY_24 (x_callV (n := 0) (C := RX1) (T := TX1) (N := 10) rfl rfl kw345 kw346 kw347 kw61 kw348 (by decide +kernel) dX4_scrape_39)) <|
  fa_c (ok_r ⟨rfl, dX4_scrape_42⟩) <|
  fa_n
theorem dX4_grow_0 : decode cX4_grow 0 = .ok (.aload_n 0, 1) := by decide +kernel
theorem dX4_grow_1 : decode cX4_grow 1 = .ok (.getfield 21, 3) := by decide +kernel
theorem dX4_grow_4 : decode cX4_grow 4 = .ok (.iload_n 1, 1) := by decide +kernel
theorem dX4_grow_5 : decode cX4_grow 5 = .ok (.invokevirtual 74, 3) := by decide +kernel
theorem dX4_grow_8 : decode cX4_grow 8 = .ok (.ifCond .ne 5, 3) := by decide +kernel
theorem dX4_grow_11 : decode cX4_grow 11 = .ok (.iconst (-1), 1) := by decide +kernel
theorem dX4_grow_12 : decode cX4_grow 12 = .ok (.ireturn, 1) := by decide +kernel
theorem dX4_grow_13 : decode cX4_grow 13 = .ok (.aload_n 0, 1) := by decide +kernel
theorem dX4_grow_14 : decode cX4_grow 14 = .ok (.getfield 21, 3) := by decide +kernel
theorem dX4_grow_17 : decode cX4_grow 17 = .ok (.iload_n 1, 1) := by decide +kernel
theorem dX4_grow_18 : decode cX4_grow 18 = .ok (.invokevirtual 83, 3) := by decide +kernel
theorem dX4_grow_21 : decode cX4_grow 21 = .ok (.ifCond .ne 6, 3) := by decide +kernel
theorem dX4_grow_24 : decode cX4_grow 24 = .ok (.bipush (-3), 2) := by decide +kernel
theorem dX4_grow_26 : decode cX4_grow 26 = .ok (.ireturn, 1) := by decide +kernel
theorem dX4_grow_27 : decode cX4_grow 27 = .ok (.aload_n 0, 1) := by decide +kernel
theorem dX4_grow_28 : decode cX4_grow 28 = .ok (.getfield 21, 3) := by decide +kernel
theorem dX4_grow_31 : decode cX4_grow 31 = .ok (.iload_n 1, 1) := by decide +kernel
theorem dX4_grow_32 : decode cX4_grow 32 = .ok (.invokevirtual 115, 3) := by decide +kernel
theorem dX4_grow_35 : decode cX4_grow 35 = .ok (.aload_n 0, 1) := by decide +kernel
theorem dX4_grow_36 : decode cX4_grow 36 = .ok (.getfield 21, 3) := by decide +kernel
theorem dX4_grow_39 : decode cX4_grow 39 = .ok (.invokevirtual 112, 3) := by decide +kernel
theorem dX4_grow_42 : decode cX4_grow 42 = .ok (.ireturn, 1) := by decide +kernel
set_option maxRecDepth 20000 in
theorem tkX4_grow : ∀ q ∈ tbX4_grow, xOk (Zm false yX4_grow.name) RX4 cX4_grow 2 (some .int) pT pY q :=
  fa_c (ok_p (xg_load _ _ _) (x_aload_n dX4_grow_0 rfl)) <|
  fa_c (ok_p (xg_getf _ _ _) (x_getf (C := RX4) (T := TX4) (N := 6) rfl (by decide) inX4 kw152 dX4_grow_1)) <|
  fa_c (ok_p (xg_load _ _ _) (x_iload_n dX4_grow_4 rfl)) <|
  fa_c (ok_c pT_17 pY_17 (x_callV (n := 1) (C := RX1) (T := TX1) (N := 10) rfl rfl kw279 kw280 kw281 kw61 kw282 (by decide +kernel) dX4_grow_5)) <|
  fa_c (ok_p (xg_if _ _ _) (x_if_ne dX4_grow_8 (by decide))) <|
  fa_c (ok_p (xg_st _ _) (x_iconst dX4_grow_11 rfl)) <|
  fa_c (ok_r ⟨rfl, dX4_grow_12⟩) <|
  fa_c (ok_p (xg_load _ _ _) (x_aload_n dX4_grow_13 rfl)) <|
  fa_c (ok_p (xg_getf _ _ _) (x_getf (C := RX4) (T := TX4) (N := 6) rfl (by decide) inX4 kw152 dX4_grow_14)) <|
  fa_c (ok_p (xg_load _ _ _) (x_iload_n dX4_grow_17 rfl)) <|
  fa_c (ok_c pT_23 pY_23 (x_callV (n := 1) (C := RX1) (T := TX1) (N := 10) rfl rfl kw291 kw292 kw293 kw61 kw294 (by decide +kernel) dX4_grow_18)) <|
  fa_c (ok_p (xg_if _ _ _) (x_if_ne dX4_grow_21 (by decide))) <|
  fa_c (ok_p (xg_st _ _) (x_bipush dX4_grow_24 rfl)) <|
  fa_c (ok_r ⟨rfl, dX4_grow_26⟩) <|
  fa_c (ok_p (xg_load _ _ _) (x_aload_n dX4_grow_27 rfl)) <|
  fa_c (ok_p (xg_getf _ _ _) (x_getf (C := RX4) (T := TX4) (N := 6) rfl (by decide) inX4 kw152 dX4_grow_28)) <|
  fa_c (ok_p (xg_load _ _ _) (x_iload_n dX4_grow_31 rfl)) <|
  fa_c (ok_c pT_26 pY_26 (x_callV (n := 1) (C := RX1) (T := TX1) (N := 10) rfl rfl kw359 kw360 kw361 kw61 kw362 (by decide +kernel) dX4_grow_32)) <|
  fa_c (ok_p (xg_load _ _ _) (x_aload_n dX4_grow_35 rfl)) <|
  fa_c (ok_p (xg_getf _ _ _) (x_getf (C := RX4) (T := TX4) (N := 6) rfl (by decide) inX4 kw152 dX4_grow_36)) <|
  fa_c (ok_c pT_24 pY_24 (x_callV (n := 0) (C := RX1) (T := TX1) (N := 10) rfl rfl kw345 kw346 kw347 kw61 kw348 (by decide +kernel) dX4_grow_39)) <|
  fa_c (ok_r ⟨rfl, dX4_grow_42⟩) <|
  fa_n
theorem dX4_seen_0 : decode cX4_seen 0 = .ok (.aload_n 0, 1) := by decide +kernel
theorem dX4_seen_1 : decode cX4_seen 1 = .ok (.getfield 21, 3) := by decide +kernel
theorem dX4_seen_4 : decode cX4_seen 4 = .ok (.invokevirtual 118, 3) := by decide +kernel
theorem dX4_seen_7 : decode cX4_seen 7 = .ok (.ifCond .eq 13, 3) := by decide +kernel
theorem dX4_seen_10 : decode cX4_seen 10 = .ok (.aload_n 0, 1) := by decide +kernel
theorem dX4_seen_11 : decode cX4_seen 11 = .ok (.getfield 21, 3) := by decide +kernel
theorem dX4_seen_14 : decode cX4_seen 14 = .ok (.invokevirtual 122, 3) := by decide +kernel
theorem dX4_seen_17 : decode cX4_seen 17 = .ok (.goto 6, 3) := by decide +kernel
theorem dX4_seen_20 : decode cX4_seen 20 = .ok (.ldc2_w 126, 3) := by decide +kernel
theorem dX4_seen_23 : decode cX4_seen 23 = .ok (.lreturn, 1) := by decide +kernel
set_option maxRecDepth 20000 in
theorem tkX4_seen : ∀ q ∈ tbX4_seen, xOk (Zm false yX4_seen.name) RX4 cX4_seen 1 (some .long) pT pY q :=
  fa_c (ok_p (xg_load _ _ _) (x_aload_n dX4_seen_0 rfl)) <|
  fa_c (ok_p (xg_getf _ _ _) (x_getf (C := RX4) (T := TX4) (N := 6) rfl (by decide) inX4 kw152 dX4_seen_1)) <|
  fa_c (ok_c pT_8 pY_8 (x_callV (n := 0) (C := RX1) (T := TX1) (N := 10) rfl rfl kw367 kw368 kw369 kw61 kw370 (by decide +kernel) dX4_seen_4)) <|
  fa_c (ok_p (xg_if _ _ _) (x_if_eq dX4_seen_7 (by decide))) <|
  fa_c (ok_p (xg_load _ _ _) (x_aload_n dX4_seen_10 rfl)) <|
  fa_c (ok_p (xg_getf _ _ _) (x_getf (C := RX4) (T := TX4) (N := 6) rfl (by decide) inX4 kw152 dX4_seen_11)) <|
  fa_c (ok_c pT_13 pY_13 (x_callV (n := 0) (C := RX1) (T := TX1) (N := 10) rfl rfl kw371 kw372 kw373 kw61 kw374 (by decide +kernel) dX4_seen_14)) <|
  fa_c (ok_p (xg_st _ _) (x_goto dX4_seen_17 (by decide))) <|
  fa_c (ok_p (xg_st _ _) (x_ldc2 dX4_seen_20 kw375)) <|
  fa_c (ok_r ⟨rfl, dX4_seen_23⟩) <|
  fa_n
theorem dX4_step_0 : decode cX4_step 0 = .ok (.iload_n 1, 1) := by decide +kernel
theorem dX4_step_1 : decode cX4_step 1 = .ok (.invokestatic 128, 3) := by decide +kernel
theorem dX4_step_4 : decode cX4_step 4 = .ok (.ifCond .ne 6, 3) := by decide +kernel
theorem dX4_step_7 : decode cX4_step 7 = .ok (.bipush (-2), 2) := by decide +kernel
theorem dX4_step_9 : decode cX4_step 9 = .ok (.ireturn, 1) := by decide +kernel
theorem dX4_step_10 : decode cX4_step 10 = .ok (.aload_n 0, 1) := by decide +kernel
theorem dX4_step_11 : decode cX4_step 11 = .ok (.getfield 21, 3) := by decide +kernel
theorem dX4_step_14 : decode cX4_step 14 = .ok (.invokevirtual 118, 3) := by decide +kernel
theorem dX4_step_17 : decode cX4_step 17 = .ok (.ifCond .ne 6, 3) := by decide +kernel
theorem dX4_step_20 : decode cX4_step 20 = .ok (.bipush (-3), 2) := by decide +kernel
theorem dX4_step_22 : decode cX4_step 22 = .ok (.ireturn, 1) := by decide +kernel
theorem dX4_step_23 : decode cX4_step 23 = .ok (.aload_n 0, 1) := by decide +kernel
theorem dX4_step_24 : decode cX4_step 24 = .ok (.getfield 21, 3) := by decide +kernel
theorem dX4_step_27 : decode cX4_step 27 = .ok (.aload_n 0, 1) := by decide +kernel
theorem dX4_step_28 : decode cX4_step 28 = .ok (.getfield 21, 3) := by decide +kernel
theorem dX4_step_31 : decode cX4_step 31 = .ok (.invokevirtual 86, 3) := by decide +kernel
theorem dX4_step_34 : decode cX4_step 34 = .ok (.iload_n 1, 1) := by decide +kernel
theorem dX4_step_35 : decode cX4_step 35 = .ok (.invokevirtual 131, 3) := by decide +kernel
theorem dX4_step_38 : decode cX4_step 38 = .ok (.istore_n 2, 1) := by decide +kernel
theorem dX4_step_39 : decode cX4_step 39 = .ok (.iload_n 2, 1) := by decide +kernel
theorem dX4_step_40 : decode cX4_step 40 = .ok (.bipush (-9), 2) := by decide +kernel
theorem dX4_step_42 : decode cX4_step 42 = .ok (.if_icmp .ne 6, 3) := by decide +kernel
theorem dX4_step_45 : decode cX4_step 45 = .ok (.bipush (-3), 2) := by decide +kernel
theorem dX4_step_47 : decode cX4_step 47 = .ok (.ireturn, 1) := by decide +kernel
theorem dX4_step_48 : decode cX4_step 48 = .ok (.aload_n 0, 1) := by decide +kernel
theorem dX4_step_49 : decode cX4_step 49 = .ok (.getfield 21, 3) := by decide +kernel
theorem dX4_step_52 : decode cX4_step 52 = .ok (.invokevirtual 122, 3) := by decide +kernel
theorem dX4_step_55 : decode cX4_step 55 = .ok (.invokestatic 134, 3) := by decide +kernel
theorem dX4_step_58 : decode cX4_step 58 = .ok (.istore_n 3, 1) := by decide +kernel
theorem dX4_step_59 : decode cX4_step 59 = .ok (.aload_n 0, 1) := by decide +kernel
theorem dX4_step_60 : decode cX4_step 60 = .ok (.getfield 21, 3) := by decide +kernel
theorem dX4_step_63 : decode cX4_step 63 = .ok (.iload_n 2, 1) := by decide +kernel
theorem dX4_step_64 : decode cX4_step 64 = .ok (.invokevirtual 138, 3) := by decide +kernel
theorem dX4_step_67 : decode cX4_step 67 = .ok (.aload_n 0, 1) := by decide +kernel
theorem dX4_step_68 : decode cX4_step 68 = .ok (.getfield 21, 3) := by decide +kernel
theorem dX4_step_71 : decode cX4_step 71 = .ok (.invokevirtual 122, 3) := by decide +kernel
theorem dX4_step_74 : decode cX4_step 74 = .ok (.invokestatic 134, 3) := by decide +kernel
theorem dX4_step_77 : decode cX4_step 77 = .ok (.iload_n 3, 1) := by decide +kernel
theorem dX4_step_78 : decode cX4_step 78 = .ok (.isub, 1) := by decide +kernel
theorem dX4_step_79 : decode cX4_step 79 = .ok (.ireturn, 1) := by decide +kernel
set_option maxRecDepth 20000 in
theorem tkX4_step : ∀ q ∈ tbX4_step, xOk (Zm false yX4_step.name) RX4 cX4_step 4 (some .int) pT pY q :=
  fa_c (ok_p (xg_load _ _ _) (x_iload_n dX4_step_0 rfl)) <|
  fa_c (ok_c pT_116 pY_116 (x_callS (n := 1) rfl kw380 kw381 kw59 kw382 (by decide +kernel) dX4_step_1)) <|
  fa_c (ok_p (xg_if _ _ _) (x_if_ne dX4_step_4 (by decide))) <|
  fa_c (ok_p (xg_st _ _) (x_bipush dX4_step_7 rfl)) <|
  fa_c (ok_r ⟨rfl, dX4_step_9⟩) <|
  fa_c (ok_p (xg_load _ _ _) (x_aload_n dX4_step_10 rfl)) <|
  fa_c (ok_p (xg_getf _ _ _) (x_getf (C := RX4) (T := TX4) (N := 6) rfl (by decide) inX4 kw152 dX4_step_11)) <|
  fa_c (ok_c pT_8 pY_8 (x_callV (n := 0) (C := RX1) (T := TX1) (N := 10) rfl rfl kw367 kw368 kw369 kw61 kw370 (by decide +kernel) dX4_step_14)) <|
  fa_c (ok_p (xg_if _ _ _) (x_if_ne dX4_step_17 (by decide))) <|
  fa_c (ok_p (xg_st _ _) (x_bipush dX4_step_20 rfl)) <|
  fa_c (ok_r ⟨rfl, dX4_step_22⟩) <|
  fa_c (ok_p (xg_load _ _ _) (x_aload_n dX4_step_23 rfl)) <|
  fa_c (ok_p (xg_getf _ _ _) (x_getf (C := RX4) (T := TX4) (N := 6) rfl (by decide) inX4 kw152 dX4_step_24)) <|
  fa_c (ok_p (xg_load _ _ _) (x_aload_n dX4_step_27 rfl)) <|
  fa_c (ok_p (xg_getf _ _ _) (x_getf (C := RX4) (T := TX4) (N := 6) rfl (by decide) inX4 kw152 dX4_step_28)) <|
  fa_c (ok_c pT_12 pY_12 (x_callV (n := 0) (C := RX1) (T := TX1) (N := 10) rfl rfl kw295 kw296 kw297 kw61 kw298 (by decide +kernel) dX4_step_31)) <|
  fa_c (ok_p (xg_load _ _ _) (x_iload_n dX4_step_34 rfl)) <|
  fa_c (ok_c pT_34 pY_34 (x_callV (n := 2) (C := RX1) (T := TX1) (N := 10) rfl rfl kw383 kw384 kw385 kw61 kw386 (by decide +kernel) dX4_step_35)) <|
  fa_c (ok_p (xg_store _ _ _) (x_istore_n dX4_step_38 rfl)) <|
  fa_c (ok_p (xg_load _ _ _) (x_iload_n dX4_step_39 rfl)) <|
  fa_c (ok_p (xg_st _ _) (x_bipush dX4_step_40 rfl)) <|
  fa_c (ok_p (xg_icmp _ _ _) (x_icmp_ne dX4_step_42 (by decide))) <|
  fa_c (ok_p (xg_st _ _) (x_bipush dX4_step_45 rfl)) <|
  fa_c (ok_r ⟨rfl, dX4_step_47⟩) <|
  fa_c (ok_p (xg_load _ _ _) (x_aload_n dX4_step_48 rfl)) <|
  fa_c (ok_p (xg_getf _ _ _) (x_getf (C := RX4) (T := TX4) (N := 6) rfl (by decide) inX4 kw152 dX4_step_49)) <|
  fa_c (ok_c pT_13 pY_13 (x_callV (n := 0) (C := RX1) (T := TX1) (N := 10) rfl rfl kw371 kw372 kw373 kw61 kw374 (by decide +kernel) dX4_step_52)) <|
  fa_c (ok_c pT_195 pY_195 (x_callS (n := 1) rfl kw395 kw396 kw67 kw397 (by decide +kernel) dX4_step_55)) <|
  fa_c (ok_p (xg_store _ _ _) (x_istore_n dX4_step_58 rfl)) <|
  fa_c (ok_p (xg_load _ _ _) (x_aload_n dX4_step_59 rfl)) <|
  fa_c (ok_p (xg_getf _ _ _) (x_getf (C := RX4) (T := TX4) (N := 6) rfl (by decide) inX4 kw152 dX4_step_60)) <|
  fa_c (ok_p (xg_load _ _ _) (x_iload_n dX4_step_63 rfl)) <|
  fa_c (ok_c pT_27 pY_27 (x_callV (n := 1) (C := RX1) (T := TX1) (N := 10) rfl rfl kw401 kw402 kw403 kw61 kw404 (by decide +kernel) dX4_step_64)) <|
  fa_c (ok_p (xg_load _ _ _) (x_aload_n dX4_step_67 rfl)) <|
  fa_c (ok_p (xg_getf _ _ _) (x_getf (C := RX4) (T := TX4) (N := 6) rfl (by decide) inX4 kw152 dX4_step_68)) <|
  fa_c (ok_c pT_13 pY_13 (x_callV (n := 0) (C := RX1) (T := TX1) (N := 10) rfl rfl kw371 kw372 kw373 kw61 kw374 (by decide +kernel) dX4_step_71)) <|
  fa_c (ok_c pT_195 pY_195 (x_callS (n := 1) rfl kw395 kw396 kw67 kw397 (by decide +kernel) dX4_step_74)) <|
  fa_c (ok_p (xg_load _ _ _) (x_iload_n dX4_step_77 rfl)) <|
  fa_c (ok_p (xg_st _ _) (x_isub dX4_step_78)) <|
  fa_c (ok_r ⟨rfl, dX4_step_79⟩) <|
  fa_n
theorem dX4_voyage_0 : decode cX4_voyage 0 = .ok (.aload_n 0, 1) := by decide +kernel
theorem dX4_voyage_1 : decode cX4_voyage 1 = .ok (.iconst 0, 1) := by decide +kernel
theorem dX4_voyage_2 : decode cX4_voyage 2 = .ok (.putfield 36, 3) := by decide +kernel
theorem dX4_voyage_5 : decode cX4_voyage 5 = .ok (.aload_n 0, 1) := by decide +kernel
theorem dX4_voyage_6 : decode cX4_voyage 6 = .ok (.iload_n 1, 1) := by decide +kernel
theorem dX4_voyage_7 : decode cX4_voyage 7 = .ok (.invokevirtual 40, 3) := by decide +kernel
theorem dX4_voyage_10 : decode cX4_voyage 10 = .ok (.astore 6, 2) := by decide +kernel
theorem dX4_voyage_12 : decode cX4_voyage 12 = .ok (.aload 6, 2) := by decide +kernel
theorem dX4_voyage_14 : decode cX4_voyage 14 = .ok (.ifnonnull 5, 3) := by decide +kernel
theorem dX4_voyage_17 : decode cX4_voyage 17 = .ok (.iconst (-1), 1) := by decide +kernel
theorem dX4_voyage_18 : decode cX4_voyage 18 = .ok (.ireturn, 1) := by decide +kernel
theorem dX4_voyage_19 : decode cX4_voyage 19 = .ok (.iload_n 2, 1) := by decide +kernel
theorem dX4_voyage_20 : decode cX4_voyage 20 = .ok (.invokestatic 44, 3) := by decide +kernel
theorem dX4_voyage_23 : decode cX4_voyage 23 = .ok (.ifCond .eq 24, 3) := by decide +kernel
theorem dX4_voyage_26 : decode cX4_voyage 26 = .ok (.iload 4, 2) := by decide +kernel
theorem dX4_voyage_28 : decode cX4_voyage 28 = .ok (.iconst 0, 1) := by decide +kernel
theorem dX4_voyage_29 : decode cX4_voyage 29 = .ok (.bipush 40, 2) := by decide +kernel
theorem dX4_voyage_31 : decode cX4_voyage 31 = .ok (.invokestatic 141, 3) := by decide +kernel
theorem dX4_voyage_34 : decode cX4_voyage 34 = .ok (.ifCond .eq 13, 3) := by decide +kernel
theorem dX4_voyage_37 : decode cX4_voyage 37 = .ok (.iload 5, 2) := by decide +kernel
theorem dX4_voyage_39 : decode cX4_voyage 39 = .ok (.iconst 0, 1) := by decide +kernel
theorem dX4_voyage_40 : decode cX4_voyage 40 = .ok (.iconst 4, 1) := by decide +kernel
theorem dX4_voyage_41 : decode cX4_voyage 41 = .ok (.invokestatic 141, 3) := by decide +kernel
theorem dX4_voyage_44 : decode cX4_voyage 44 = .ok (.ifCond .ne 6, 3) := by decide +kernel
theorem dX4_voyage_47 : decode cX4_voyage 47 = .ok (.bipush (-2), 2) := by decide +kernel
theorem dX4_voyage_49 : decode cX4_voyage 49 = .ok (.ireturn, 1) := by decide +kernel
theorem dX4_voyage_50 : decode cX4_voyage 50 = .ok (.aload_n 0, 1) := by decide +kernel
theorem dX4_voyage_51 : decode cX4_voyage 51 = .ok (.getfield 21, 3) := by decide +kernel
theorem dX4_voyage_54 : decode cX4_voyage 54 = .ok (.invokevirtual 118, 3) := by decide +kernel
theorem dX4_voyage_57 : decode cX4_voyage 57 = .ok (.ifCond .ne 6, 3) := by decide +kernel
theorem dX4_voyage_60 : decode cX4_voyage 60 = .ok (.bipush (-3), 2) := by decide +kernel
theorem dX4_voyage_62 : decode cX4_voyage 62 = .ok (.ireturn, 1) := by decide +kernel
theorem dX4_voyage_63 : decode cX4_voyage 63 = .ok (.aload_n 0, 1) := by decide +kernel
theorem dX4_voyage_64 : decode cX4_voyage 64 = .ok (.aload 6, 2) := by decide +kernel
theorem dX4_voyage_66 : decode cX4_voyage 66 = .ok (.iload_n 2, 1) := by decide +kernel
theorem dX4_voyage_67 : decode cX4_voyage 67 = .ok (.iload_n 3, 1) := by decide +kernel
theorem dX4_voyage_68 : decode cX4_voyage 68 = .ok (.iload 4, 2) := by decide +kernel
theorem dX4_voyage_70 : decode cX4_voyage 70 = .ok (.invokevirtual 48, 3) := by decide +kernel
theorem dX4_voyage_73 : decode cX4_voyage 73 = .ok (.istore 7, 2) := by decide +kernel
theorem dX4_voyage_75 : decode cX4_voyage 75 = .ok (.iload 7, 2) := by decide +kernel
theorem dX4_voyage_77 : decode cX4_voyage 77 = .ok (.ifCond .eq 10, 3) := by decide +kernel
theorem dX4_voyage_80 : decode cX4_voyage 80 = .ok (.aload_n 0, 1) := by decide +kernel
theorem dX4_voyage_81 : decode cX4_voyage 81 = .ok (.iload 7, 2) := by decide +kernel
theorem dX4_voyage_83 : decode cX4_voyage 83 = .ok (.invokevirtual 52, 3) := by decide +kernel
theorem dX4_voyage_86 : decode cX4_voyage 86 = .ok (.ireturn, 1) := by decide +kernel
theorem dX4_voyage_87 : decode cX4_voyage 87 = .ok (.iconst 0, 1) := by decide +kernel
theorem dX4_voyage_88 : decode cX4_voyage 88 = .ok (.istore 8, 2) := by decide +kernel
theorem dX4_voyage_90 : decode cX4_voyage 90 = .ok (.iload 8, 2) := by decide +kernel
theorem dX4_voyage_92 : decode cX4_voyage 92 = .ok (.iload 4, 2) := by decide +kernel
theorem dX4_voyage_94 : decode cX4_voyage 94 = .ok (.if_icmp .ge 27, 3) := by decide +kernel
theorem dX4_voyage_97 : decode cX4_voyage 97 = .ok (.aload_n 0, 1) := by decide +kernel
theorem dX4_voyage_98 : decode cX4_voyage 98 = .ok (.getfield 32, 3) := by decide +kernel
theorem dX4_voyage_101 : decode cX4_voyage 101 = .ok (.iload 8, 2) := by decide +kernel
theorem dX4_voyage_103 : decode cX4_voyage 103 = .ok (.invokestatic 145, 3) := by decide +kernel
theorem dX4_voyage_106 : decode cX4_voyage 106 = .ok (.invokestatic 128, 3) := by decide +kernel
theorem dX4_voyage_109 : decode cX4_voyage 109 = .ok (.ifCond .ne 6, 3) := by decide +kernel
theorem dX4_voyage_112 : decode cX4_voyage 112 = .ok (.bipush (-2), 2) := by decide +kernel
theorem dX4_voyage_114 : decode cX4_voyage 114 = .ok (.ireturn, 1) := by decide +kernel
theorem dX4_voyage_115 : decode cX4_voyage 115 = .ok (.iinc 8 1, 3) := by decide +kernel
theorem dX4_voyage_118 : decode cX4_voyage 118 = .ok (.goto (-28), 3) := by decide +kernel
theorem dX4_voyage_121 : decode cX4_voyage 121 = .ok (.aload_n 0, 1) := by decide +kernel
theorem dX4_voyage_122 : decode cX4_voyage 122 = .ok (.getfield 21, 3) := by decide +kernel
theorem dX4_voyage_125 : decode cX4_voyage 125 = .ok (.aload_n 0, 1) := by decide +kernel
theorem dX4_voyage_126 : decode cX4_voyage 126 = .ok (.getfield 32, 3) := by decide +kernel
theorem dX4_voyage_129 : decode cX4_voyage 129 = .ok (.iload 4, 2) := by decide +kernel
theorem dX4_voyage_131 : decode cX4_voyage 131 = .ok (.iload 5, 2) := by decide +kernel
theorem dX4_voyage_133 : decode cX4_voyage 133 = .ok (.invokevirtual 148, 3) := by decide +kernel
theorem dX4_voyage_136 : decode cX4_voyage 136 = .ok (.ireturn, 1) := by decide +kernel
set_option maxRecDepth 20000 in
theorem tkX4_voyage : ∀ q ∈ tbX4_voyage, xOk (Zm false yX4_voyage.name) RX4 cX4_voyage 9 (some .int) pT pY q :=
  fa_c (ok_p (xg_load _ _ _) (x_aload_n dX4_voyage_0 rfl)) <|
  fa_c (ok_p (xg_st _ _) (x_iconst dX4_voyage_1 rfl)) <|
  fa_c (ok_p (xg_putf _ _ _ _) (x_putfof (C := RX4) (T := TX4) (N := 6) tyX4 tyX4_ok nmX4 rfl (by decide) inX4 kw156 dX4_voyage_2 (tyX4_ok 5 (by decide)) (fun _ _ _ _ _ _ => Or.inl rfl))) <|
  fa_c (ok_p (xg_load _ _ _) (x_aload_n dX4_voyage_5 rfl)) <|
  fa_c (ok_p (xg_load _ _ _) (x_iload_n dX4_voyage_6 rfl)) <|
  fa_c (ok_c pT_102 pY_102 (x_callV (n := 1) (C := RX4) (T := TX4) (N := 6) rfl rfl kw174 kw176 kw0 kw59 kw177 (by decide +kernel) dX4_voyage_7)) <|
  fa_c (ok_p (xg_store _ _ _) (x_astore dX4_voyage_10)) <|
  fa_c (ok_p (xg_load _ _ _) (x_aload dX4_voyage_12)) <|
  fa_c (ok_p (xg_null _ _) (x_ifnonnull dX4_voyage_14 (by decide))) <|
  fa_c (ok_p (xg_st _ _) (x_iconst dX4_voyage_17 rfl)) <|
  fa_c (ok_r ⟨rfl, dX4_voyage_18⟩) <|
  fa_c (ok_p (xg_load _ _ _) (x_iload_n dX4_voyage_19 rfl)) <|
  fa_c (ok_c pT_115 pY_115 (x_callS (n := 1) rfl kw178 kw179 kw59 kw180 (by decide +kernel) dX4_voyage_20)) <|
  fa_c (ok_p (xg_if _ _ _) (x_if_eq dX4_voyage_23 (by decide))) <|
  fa_c (ok_p (xg_load _ _ _) (x_iload dX4_voyage_26)) <|
  fa_c (ok_p (xg_st _ _) (x_iconst dX4_voyage_28 rfl)) <|
  fa_c (ok_p (xg_st _ _) (x_bipush dX4_voyage_29 rfl)) <|
  fa_c (ok_c pT_114 pY_114 (x_callS (n := 3) rfl kw181 kw182 kw59 kw183 (by decide +kernel) dX4_voyage_31)) <|
  fa_c (ok_p (xg_if _ _ _) (x_if_eq dX4_voyage_34 (by decide))) <|
  fa_c (ok_p (xg_load _ _ _) (x_iload dX4_voyage_37)) <|
  fa_c (ok_p (xg_st _ _) (x_iconst dX4_voyage_39 rfl)) <|
  fa_c (ok_p (xg_st _ _) (x_iconst dX4_voyage_40 rfl)) <|
  fa_c (ok_c pT_114 pY_114 (x_callS (n := 3) rfl kw181 kw182 kw59 kw183 (by decide +kernel) dX4_voyage_41)) <|
  fa_c (ok_p (xg_if _ _ _) (x_if_ne dX4_voyage_44 (by decide))) <|
  fa_c (ok_p (xg_st _ _) (x_bipush dX4_voyage_47 rfl)) <|
  fa_c (ok_r ⟨rfl, dX4_voyage_49⟩) <|
  fa_c (ok_p (xg_load _ _ _) (x_aload_n dX4_voyage_50 rfl)) <|
  fa_c (ok_p (xg_getf _ _ _) (x_getf (C := RX4) (T := TX4) (N := 6) rfl (by decide) inX4 kw152 dX4_voyage_51)) <|
  fa_c (ok_c pT_8 pY_8 (x_callV (n := 0) (C := RX1) (T := TX1) (N := 10) rfl rfl kw367 kw368 kw369 kw61 kw370 (by decide +kernel) dX4_voyage_54)) <|
  fa_c (ok_p (xg_if _ _ _) (x_if_ne dX4_voyage_57 (by decide))) <|
  fa_c (ok_p (xg_st _ _) (x_bipush dX4_voyage_60 rfl)) <|
  fa_c (ok_r ⟨rfl, dX4_voyage_62⟩) <|
  fa_c (ok_p (xg_load _ _ _) (x_aload_n dX4_voyage_63 rfl)) <|
  fa_c (ok_p (xg_load _ _ _) (x_aload dX4_voyage_64)) <|
  fa_c (ok_p (xg_load _ _ _) (x_iload_n dX4_voyage_66 rfl)) <|
  fa_c (ok_p (xg_load _ _ _) (x_iload_n dX4_voyage_67 rfl)) <|
  fa_c (ok_p (xg_load _ _ _) (x_iload dX4_voyage_68)) <|
  fa_c (ok_c pT_104 pY_104 (x_callV (n := 4) (C := RX4) (T := TX4) (N := 6) rfl rfl kw184 kw186 kw1 kw59 kw187 (by decide +kernel) dX4_voyage_70)) <|
  fa_c (ok_p (xg_store _ _ _) (x_istore dX4_voyage_73)) <|
  fa_c (ok_p (xg_load _ _ _) (x_iload dX4_voyage_75)) <|
  fa_c (ok_p (xg_if _ _ _) (x_if_eq dX4_voyage_77 (by decide))) <|
  fa_c (ok_p (xg_load _ _ _) (x_aload_n dX4_voyage_80 rfl)) <|
  fa_c (ok_p (xg_load _ _ _) (x_iload dX4_voyage_81)) <|
  fa_c (ok_c pT_103 pY_103 (x_callV (n := 1) (C := RX4) (T := TX4) (N := 6) rfl rfl kw213 kw215 kw2 kw59 kw216 (by decide +kernel) dX4_voyage_83)) <|
  fa_c (ok_r ⟨rfl, dX4_voyage_86⟩) <|
  fa_c (ok_p (xg_st _ _) (x_iconst dX4_voyage_87 rfl)) <|
  fa_c (ok_p (xg_store _ _ _) (x_istore dX4_voyage_88)) <|
  fa_c (ok_p (xg_clr _ (xg_load _ _ _)) (x_clr _ (x_iload dX4_voyage_90))) <|
  fa_c (ok_p (xg_load _ _ _) (x_iload dX4_voyage_92)) <|
  fa_c (ok_p (xg_icmp _ _ _) (x_icmp_ge dX4_voyage_94 (by decide))) <|
  fa_c (ok_p (xg_load _ _ _) (x_aload_n dX4_voyage_97 rfl)) <|
  fa_c (ok_p (xg_getf _ _ _) (x_getf (C := RX4) (T := TX4) (N := 6) rfl (by decide) inX4 kw154 dX4_voyage_98)) <|
  fa_c (ok_p (xg_load _ _ _) (x_iload dX4_voyage_101)) <|
  fa_c (ok_c pT_119 pY_119 (x_callS (n := 2) rfl kw409 kw208 kw59 kw209 (by decide +kernel) dX4_voyage_103)) <|
  fa_c (ok_c pT_116 pY_116 (x_callS (n := 1) rfl kw380 kw381 kw59 kw382 (by decide +kernel) dX4_voyage_106)) <|
  fa_c (ok_p (xg_if _ _ _) (x_if_ne dX4_voyage_109 (by decide))) <|
  fa_c (ok_p (xg_st _ _) (x_bipush dX4_voyage_112 rfl)) <|
  fa_c (ok_r ⟨rfl, dX4_voyage_114⟩) <|
  fa_c (ok_p (xg_iinc _ _ _) (x_iinc dX4_voyage_115 rfl)) <|
  fa_c (ok_p (xg_st _ _) (x_goto dX4_voyage_118 (by decide))) <|
  fa_c (ok_p (xg_load _ _ _) (x_aload_n dX4_voyage_121 rfl)) <|
  fa_c (ok_p (xg_getf _ _ _) (x_getf (C := RX4) (T := TX4) (N := 6) rfl (by decide) inX4 kw152 dX4_voyage_122)) <|
  fa_c (ok_p (xg_load _ _ _) (x_aload_n dX4_voyage_125 rfl)) <|
  fa_c (ok_p (xg_getf _ _ _) (x_getf (C := RX4) (T := TX4) (N := 6) rfl (by decide) inX4 kw154 dX4_voyage_126)) <|
  fa_c (ok_p (xg_load _ _ _) (x_iload dX4_voyage_129)) <|
  fa_c (ok_p (xg_load _ _ _) (x_iload dX4_voyage_131)) <|
  fa_c (ok_c pT_35 pY_35 (x_callV (n := 3) (C := RX1) (T := TX1) (N := 10) rfl rfl kw410 kw411 kw412 kw61 kw413 (by decide +kernel) dX4_voyage_133)) <|
  fa_c (ok_r ⟨rfl, dX4_voyage_136⟩) <|
  fa_n
theorem dX4_way_0 : decode cX4_way 0 = .ok (.aload_n 0, 1) := by decide +kernel
theorem dX4_way_1 : decode cX4_way 1 = .ok (.getfield 21, 3) := by decide +kernel
theorem dX4_way_4 : decode cX4_way 4 = .ok (.iload_n 1, 1) := by decide +kernel
theorem dX4_way_5 : decode cX4_way 5 = .ok (.invokevirtual 93, 3) := by decide +kernel
theorem dX4_way_8 : decode cX4_way 8 = .ok (.ifCond .ne 5, 3) := by decide +kernel
theorem dX4_way_11 : decode cX4_way 11 = .ok (.iconst (-1), 1) := by decide +kernel
theorem dX4_way_12 : decode cX4_way 12 = .ok (.ireturn, 1) := by decide +kernel
theorem dX4_way_13 : decode cX4_way 13 = .ok (.iload_n 2, 1) := by decide +kernel
theorem dX4_way_14 : decode cX4_way 14 = .ok (.iconst (-1), 1) := by decide +kernel
theorem dX4_way_15 : decode cX4_way 15 = .ok (.bipush 9, 2) := by decide +kernel
theorem dX4_way_17 : decode cX4_way 17 = .ok (.invokestatic 141, 3) := by decide +kernel
theorem dX4_way_20 : decode cX4_way 20 = .ok (.ifCond .ne 6, 3) := by decide +kernel
theorem dX4_way_23 : decode cX4_way 23 = .ok (.bipush (-2), 2) := by decide +kernel
theorem dX4_way_25 : decode cX4_way 25 = .ok (.ireturn, 1) := by decide +kernel
theorem dX4_way_26 : decode cX4_way 26 = .ok (.aload_n 0, 1) := by decide +kernel
theorem dX4_way_27 : decode cX4_way 27 = .ok (.getfield 21, 3) := by decide +kernel
theorem dX4_way_30 : decode cX4_way 30 = .ok (.iload_n 1, 1) := by decide +kernel
theorem dX4_way_31 : decode cX4_way 31 = .ok (.iload_n 2, 1) := by decide +kernel
theorem dX4_way_32 : decode cX4_way 32 = .ok (.invokevirtual 152, 3) := by decide +kernel
theorem dX4_way_35 : decode cX4_way 35 = .ok (.ireturn, 1) := by decide +kernel
set_option maxRecDepth 20000 in
theorem tkX4_way : ∀ q ∈ tbX4_way, xOk (Zm false yX4_way.name) RX4 cX4_way 3 (some .int) pT pY q :=
  fa_c (ok_p (xg_load _ _ _) (x_aload_n dX4_way_0 rfl)) <|
  fa_c (ok_p (xg_getf _ _ _) (x_getf (C := RX4) (T := TX4) (N := 6) rfl (by decide) inX4 kw152 dX4_way_1)) <|
  fa_c (ok_p (xg_load _ _ _) (x_iload_n dX4_way_4 rfl)) <|
  fa_c (ok_c pT_16 pY_16 (x_callV (n := 1) (C := RX1) (T := TX1) (N := 10) rfl rfl kw319 kw320 kw321 kw61 kw322 (by decide +kernel) dX4_way_5)) <|
  fa_c (ok_p (xg_if _ _ _) (x_if_ne dX4_way_8 (by decide))) <|
  fa_c (ok_p (xg_st _ _) (x_iconst dX4_way_11 rfl)) <|
  fa_c (ok_r ⟨rfl, dX4_way_12⟩) <|
  fa_c (ok_p (xg_load _ _ _) (x_iload_n dX4_way_13 rfl)) <|
  fa_c (ok_p (xg_st _ _) (x_iconst dX4_way_14 rfl)) <|
  fa_c (ok_p (xg_st _ _) (x_bipush dX4_way_15 rfl)) <|
  fa_c (ok_c pT_114 pY_114 (x_callS (n := 3) rfl kw181 kw182 kw59 kw183 (by decide +kernel) dX4_way_17)) <|
  fa_c (ok_p (xg_if _ _ _) (x_if_ne dX4_way_20 (by decide))) <|
  fa_c (ok_p (xg_st _ _) (x_bipush dX4_way_23 rfl)) <|
  fa_c (ok_r ⟨rfl, dX4_way_25⟩) <|
  fa_c (ok_p (xg_load _ _ _) (x_aload_n dX4_way_26 rfl)) <|
  fa_c (ok_p (xg_getf _ _ _) (x_getf (C := RX4) (T := TX4) (N := 6) rfl (by decide) inX4 kw152 dX4_way_27)) <|
  fa_c (ok_p (xg_load _ _ _) (x_iload_n dX4_way_30 rfl)) <|
  fa_c (ok_p (xg_load _ _ _) (x_iload_n dX4_way_31 rfl)) <|
  fa_c (ok_c pT_38 pY_38 (x_callV (n := 2) (C := RX1) (T := TX1) (N := 10) rfl rfl kw431 kw432 kw433 kw61 kw434 (by decide +kernel) dX4_way_32)) <|
  fa_c (ok_r ⟨rfl, dX4_way_35⟩) <|
  fa_n
theorem dX4_most_0 : decode cX4_most 0 = .ok (.iload_n 1, 1) := by decide +kernel
theorem dX4_most_1 : decode cX4_most 1 = .ok (.iconst 1, 1) := by decide +kernel
theorem dX4_most_2 : decode cX4_most 2 = .ok (.iconst 5, 1) := by decide +kernel
theorem dX4_most_3 : decode cX4_most 3 = .ok (.invokestatic 141, 3) := by decide +kernel
theorem dX4_most_6 : decode cX4_most 6 = .ok (.ifCond .eq 12, 3) := by decide +kernel
theorem dX4_most_9 : decode cX4_most 9 = .ok (.iload_n 2, 1) := by decide +kernel
theorem dX4_most_10 : decode cX4_most 10 = .ok (.iconst (-1), 1) := by decide +kernel
theorem dX4_most_11 : decode cX4_most 11 = .ok (.iconst 4, 1) := by decide +kernel
theorem dX4_most_12 : decode cX4_most 12 = .ok (.invokestatic 141, 3) := by decide +kernel
theorem dX4_most_15 : decode cX4_most 15 = .ok (.ifCond .ne 6, 3) := by decide +kernel
theorem dX4_most_18 : decode cX4_most 18 = .ok (.bipush (-2), 2) := by decide +kernel
theorem dX4_most_20 : decode cX4_most 20 = .ok (.ireturn, 1) := by decide +kernel
theorem dX4_most_21 : decode cX4_most 21 = .ok (.aload_n 0, 1) := by decide +kernel
theorem dX4_most_22 : decode cX4_most 22 = .ok (.getfield 21, 3) := by decide +kernel
theorem dX4_most_25 : decode cX4_most 25 = .ok (.invokevirtual 118, 3) := by decide +kernel
theorem dX4_most_28 : decode cX4_most 28 = .ok (.ifCond .ne 6, 3) := by decide +kernel
theorem dX4_most_31 : decode cX4_most 31 = .ok (.bipush (-3), 2) := by decide +kernel
theorem dX4_most_33 : decode cX4_most 33 = .ok (.ireturn, 1) := by decide +kernel
theorem dX4_most_34 : decode cX4_most 34 = .ok (.aload_n 0, 1) := by decide +kernel
theorem dX4_most_35 : decode cX4_most 35 = .ok (.getfield 21, 3) := by decide +kernel
theorem dX4_most_38 : decode cX4_most 38 = .ok (.iload_n 1, 1) := by decide +kernel
theorem dX4_most_39 : decode cX4_most 39 = .ok (.iload_n 2, 1) := by decide +kernel
theorem dX4_most_40 : decode cX4_most 40 = .ok (.invokevirtual 155, 3) := by decide +kernel
theorem dX4_most_43 : decode cX4_most 43 = .ok (.ireturn, 1) := by decide +kernel
set_option maxRecDepth 20000 in
theorem tkX4_most : ∀ q ∈ tbX4_most, xOk (Zm false yX4_most.name) RX4 cX4_most 3 (some .int) pT pY q :=
  fa_c (ok_p (xg_load _ _ _) (x_iload_n dX4_most_0 rfl)) <|
  fa_c (ok_p (xg_st _ _) (x_iconst dX4_most_1 rfl)) <|
  fa_c (ok_p (xg_st _ _) (x_iconst dX4_most_2 rfl)) <|
  fa_c (ok_c pT_114 pY_114 (x_callS (n := 3) rfl kw181 kw182 kw59 kw183 (by decide +kernel) dX4_most_3)) <|
  fa_c (ok_p (xg_if _ _ _) (x_if_eq dX4_most_6 (by decide))) <|
  fa_c (ok_p (xg_load _ _ _) (x_iload_n dX4_most_9 rfl)) <|
  fa_c (ok_p (xg_st _ _) (x_iconst dX4_most_10 rfl)) <|
  fa_c (ok_p (xg_st _ _) (x_iconst dX4_most_11 rfl)) <|
  fa_c (ok_c pT_114 pY_114 (x_callS (n := 3) rfl kw181 kw182 kw59 kw183 (by decide +kernel) dX4_most_12)) <|
  fa_c (ok_p (xg_if _ _ _) (x_if_ne dX4_most_15 (by decide))) <|
  fa_c (ok_p (xg_st _ _) (x_bipush dX4_most_18 rfl)) <|
  fa_c (ok_r ⟨rfl, dX4_most_20⟩) <|
  fa_c (ok_p (xg_load _ _ _) (x_aload_n dX4_most_21 rfl)) <|
  fa_c (ok_p (xg_getf _ _ _) (x_getf (C := RX4) (T := TX4) (N := 6) rfl (by decide) inX4 kw152 dX4_most_22)) <|
  fa_c (ok_c pT_8 pY_8 (x_callV (n := 0) (C := RX1) (T := TX1) (N := 10) rfl rfl kw367 kw368 kw369 kw61 kw370 (by decide +kernel) dX4_most_25)) <|
  fa_c (ok_p (xg_if _ _ _) (x_if_ne dX4_most_28 (by decide))) <|
  fa_c (ok_p (xg_st _ _) (x_bipush dX4_most_31 rfl)) <|
  fa_c (ok_r ⟨rfl, dX4_most_33⟩) <|
  fa_c (ok_p (xg_load _ _ _) (x_aload_n dX4_most_34 rfl)) <|
  fa_c (ok_p (xg_getf _ _ _) (x_getf (C := RX4) (T := TX4) (N := 6) rfl (by decide) inX4 kw152 dX4_most_35)) <|
  fa_c (ok_p (xg_load _ _ _) (x_iload_n dX4_most_38 rfl)) <|
  fa_c (ok_p (xg_load _ _ _) (x_iload_n dX4_most_39 rfl)) <|
  fa_c (ok_c pT_40 pY_40 (x_callV (n := 2) (C := RX1) (T := TX1) (N := 10) rfl rfl kw446 kw447 kw448 kw61 kw449 (by decide +kernel) dX4_most_40)) <|
  fa_c (ok_r ⟨rfl, dX4_most_43⟩) <|
  fa_n
theorem dX4_flat_0 : decode cX4_flat 0 = .ok (.aload_n 0, 1) := by decide +kernel
theorem dX4_flat_1 : decode cX4_flat 1 = .ok (.getfield 21, 3) := by decide +kernel
theorem dX4_flat_4 : decode cX4_flat 4 = .ok (.iload_n 1, 1) := by decide +kernel
theorem dX4_flat_5 : decode cX4_flat 5 = .ok (.invokevirtual 93, 3) := by decide +kernel
theorem dX4_flat_8 : decode cX4_flat 8 = .ok (.ifCond .eq 17, 3) := by decide +kernel
theorem dX4_flat_11 : decode cX4_flat 11 = .ok (.aload_n 0, 1) := by decide +kernel
theorem dX4_flat_12 : decode cX4_flat 12 = .ok (.getfield 21, 3) := by decide +kernel
theorem dX4_flat_15 : decode cX4_flat 15 = .ok (.iload_n 1, 1) := by decide +kernel
theorem dX4_flat_16 : decode cX4_flat 16 = .ok (.invokevirtual 158, 3) := by decide +kernel
theorem dX4_flat_19 : decode cX4_flat 19 = .ok (.invokestatic 134, 3) := by decide +kernel
theorem dX4_flat_22 : decode cX4_flat 22 = .ok (.goto 4, 3) := by decide +kernel
theorem dX4_flat_25 : decode cX4_flat 25 = .ok (.iconst (-1), 1) := by decide +kernel
theorem dX4_flat_26 : decode cX4_flat 26 = .ok (.ireturn, 1) := by decide +kernel
set_option maxRecDepth 20000 in
theorem tkX4_flat : ∀ q ∈ tbX4_flat, xOk (Zm false yX4_flat.name) RX4 cX4_flat 2 (some .int) pT pY q :=
  fa_c (ok_p (xg_load _ _ _) (x_aload_n dX4_flat_0 rfl)) <|
  fa_c (ok_p (xg_getf _ _ _) (x_getf (C := RX4) (T := TX4) (N := 6) rfl (by decide) inX4 kw152 dX4_flat_1)) <|
  fa_c (ok_p (xg_load _ _ _) (x_iload_n dX4_flat_4 rfl)) <|
  fa_c (ok_c pT_16 pY_16 (x_callV (n := 1) (C := RX1) (T := TX1) (N := 10) rfl rfl kw319 kw320 kw321 kw61 kw322 (by decide +kernel) dX4_flat_5)) <|
  fa_c (ok_p (xg_if _ _ _) (x_if_eq dX4_flat_8 (by decide))) <|
  fa_c (ok_p (xg_load _ _ _) (x_aload_n dX4_flat_11 rfl)) <|
  fa_c (ok_p (xg_getf _ _ _) (x_getf (C := RX4) (T := TX4) (N := 6) rfl (by decide) inX4 kw152 dX4_flat_12)) <|
  fa_c (ok_p (xg_load _ _ _) (x_iload_n dX4_flat_15 rfl)) <|
  fa_c (ok_c pT_44 pY_44 (x_callV (n := 1) (C := RX1) (T := TX1) (N := 10) rfl rfl kw465 kw466 kw467 kw61 kw468 (by decide +kernel) dX4_flat_16)) <|
  fa_c (ok_c pT_195 pY_195 (x_callS (n := 1) rfl kw395 kw396 kw67 kw397 (by decide +kernel) dX4_flat_19)) <|
  fa_c (ok_p (xg_st _ _) (x_goto dX4_flat_22 (by decide))) <|
  fa_c (ok_p (xg_st _ _) (x_iconst dX4_flat_25 rfl)) <|
  fa_c (ok_r ⟨rfl, dX4_flat_26⟩) <|
  fa_n
theorem dX4_begun_0 : decode cX4_begun 0 = .ok (.aload_n 0, 1) := by decide +kernel
theorem dX4_begun_1 : decode cX4_begun 1 = .ok (.iconst 0, 1) := by decide +kernel
theorem dX4_begun_2 : decode cX4_begun 2 = .ok (.putfield 36, 3) := by decide +kernel
theorem dX4_begun_5 : decode cX4_begun 5 = .ok (.aload_n 0, 1) := by decide +kernel
theorem dX4_begun_6 : decode cX4_begun 6 = .ok (.iload_n 1, 1) := by decide +kernel
theorem dX4_begun_7 : decode cX4_begun 7 = .ok (.invokevirtual 40, 3) := by decide +kernel
theorem dX4_begun_10 : decode cX4_begun 10 = .ok (.astore 7, 2) := by decide +kernel
theorem dX4_begun_12 : decode cX4_begun 12 = .ok (.aload 7, 2) := by decide +kernel
theorem dX4_begun_14 : decode cX4_begun 14 = .ok (.ifnonnull 5, 3) := by decide +kernel
theorem dX4_begun_17 : decode cX4_begun 17 = .ok (.iconst (-1), 1) := by decide +kernel
theorem dX4_begun_18 : decode cX4_begun 18 = .ok (.ireturn, 1) := by decide +kernel
theorem dX4_begun_19 : decode cX4_begun 19 = .ok (.iload_n 2, 1) := by decide +kernel
theorem dX4_begun_20 : decode cX4_begun 20 = .ok (.invokestatic 44, 3) := by decide +kernel
theorem dX4_begun_23 : decode cX4_begun 23 = .ok (.ifCond .eq 32, 3) := by decide +kernel
theorem dX4_begun_26 : decode cX4_begun 26 = .ok (.iload 4, 2) := by decide +kernel
theorem dX4_begun_28 : decode cX4_begun 28 = .ok (.iconst 1, 1) := by decide +kernel
theorem dX4_begun_29 : decode cX4_begun 29 = .ok (.bipush 6, 2) := by decide +kernel
theorem dX4_begun_31 : decode cX4_begun 31 = .ok (.invokestatic 141, 3) := by decide +kernel
theorem dX4_begun_34 : decode cX4_begun 34 = .ok (.ifCond .eq 21, 3) := by decide +kernel
theorem dX4_begun_37 : decode cX4_begun 37 = .ok (.iload 5, 2) := by decide +kernel
theorem dX4_begun_39 : decode cX4_begun 39 = .ok (.invokestatic 128, 3) := by decide +kernel
theorem dX4_begun_42 : decode cX4_begun 42 = .ok (.ifCond .eq 13, 3) := by decide +kernel
theorem dX4_begun_45 : decode cX4_begun 45 = .ok (.iload 6, 2) := by decide +kernel
theorem dX4_begun_47 : decode cX4_begun 47 = .ok (.iconst 0, 1) := by decide +kernel
theorem dX4_begun_48 : decode cX4_begun 48 = .ok (.iconst 2, 1) := by decide +kernel
theorem dX4_begun_49 : decode cX4_begun 49 = .ok (.invokestatic 141, 3) := by decide +kernel
theorem dX4_begun_52 : decode cX4_begun 52 = .ok (.ifCond .ne 6, 3) := by decide +kernel
theorem dX4_begun_55 : decode cX4_begun 55 = .ok (.bipush (-2), 2) := by decide +kernel
theorem dX4_begun_57 : decode cX4_begun 57 = .ok (.ireturn, 1) := by decide +kernel
theorem dX4_begun_58 : decode cX4_begun 58 = .ok (.aload_n 0, 1) := by decide +kernel
theorem dX4_begun_59 : decode cX4_begun 59 = .ok (.getfield 21, 3) := by decide +kernel
theorem dX4_begun_62 : decode cX4_begun 62 = .ok (.invokevirtual 118, 3) := by decide +kernel
theorem dX4_begun_65 : decode cX4_begun 65 = .ok (.ifCond .ne 6, 3) := by decide +kernel
theorem dX4_begun_68 : decode cX4_begun 68 = .ok (.bipush (-3), 2) := by decide +kernel
theorem dX4_begun_70 : decode cX4_begun 70 = .ok (.ireturn, 1) := by decide +kernel
theorem dX4_begun_71 : decode cX4_begun 71 = .ok (.aload_n 0, 1) := by decide +kernel
theorem dX4_begun_72 : decode cX4_begun 72 = .ok (.aload 7, 2) := by decide +kernel
theorem dX4_begun_74 : decode cX4_begun 74 = .ok (.iload_n 2, 1) := by decide +kernel
theorem dX4_begun_75 : decode cX4_begun 75 = .ok (.iload_n 3, 1) := by decide +kernel
theorem dX4_begun_76 : decode cX4_begun 76 = .ok (.iload 4, 2) := by decide +kernel
theorem dX4_begun_78 : decode cX4_begun 78 = .ok (.aload_n 0, 1) := by decide +kernel
theorem dX4_begun_79 : decode cX4_begun 79 = .ok (.getfield 21, 3) := by decide +kernel
theorem dX4_begun_82 : decode cX4_begun 82 = .ok (.invokevirtual 70, 3) := by decide +kernel
theorem dX4_begun_85 : decode cX4_begun 85 = .ok (.imul, 1) := by decide +kernel
theorem dX4_begun_86 : decode cX4_begun 86 = .ok (.invokevirtual 48, 3) := by decide +kernel
theorem dX4_begun_89 : decode cX4_begun 89 = .ok (.istore 8, 2) := by decide +kernel
theorem dX4_begun_91 : decode cX4_begun 91 = .ok (.iload 8, 2) := by decide +kernel
theorem dX4_begun_93 : decode cX4_begun 93 = .ok (.ifCond .eq 10, 3) := by decide +kernel
theorem dX4_begun_96 : decode cX4_begun 96 = .ok (.aload_n 0, 1) := by decide +kernel
theorem dX4_begun_97 : decode cX4_begun 97 = .ok (.iload 8, 2) := by decide +kernel
theorem dX4_begun_99 : decode cX4_begun 99 = .ok (.invokevirtual 52, 3) := by decide +kernel
theorem dX4_begun_102 : decode cX4_begun 102 = .ok (.ireturn, 1) := by decide +kernel
theorem dX4_begun_103 : decode cX4_begun 103 = .ok (.aload_n 0, 1) := by decide +kernel
theorem dX4_begun_104 : decode cX4_begun 104 = .ok (.getfield 21, 3) := by decide +kernel
theorem dX4_begun_107 : decode cX4_begun 107 = .ok (.aload_n 0, 1) := by decide +kernel
theorem dX4_begun_108 : decode cX4_begun 108 = .ok (.getfield 32, 3) := by decide +kernel
theorem dX4_begun_111 : decode cX4_begun 111 = .ok (.iload 4, 2) := by decide +kernel
theorem dX4_begun_113 : decode cX4_begun 113 = .ok (.iload 5, 2) := by decide +kernel
theorem dX4_begun_115 : decode cX4_begun 115 = .ok (.iload 6, 2) := by decide +kernel
theorem dX4_begun_117 : decode cX4_begun 117 = .ok (.invokevirtual 162, 3) := by decide +kernel
theorem dX4_begun_120 : decode cX4_begun 120 = .ok (.ireturn, 1) := by decide +kernel
set_option maxRecDepth 20000 in
theorem tkX4_begun : ∀ q ∈ tbX4_begun, xOk (Zm false yX4_begun.name) RX4 cX4_begun 9 (some .int) pT pY q :=
  fa_c (ok_p (xg_load _ _ _) (x_aload_n dX4_begun_0 rfl)) <|
  fa_c (ok_p (xg_st _ _) (x_iconst dX4_begun_1 rfl)) <|
  fa_c (ok_p (xg_putf _ _ _ _) (x_putfof (C := RX4) (T := TX4) (N := 6) tyX4 tyX4_ok nmX4 rfl (by decide) inX4 kw156 dX4_begun_2 (tyX4_ok 5 (by decide)) (fun _ _ _ _ _ _ => Or.inl rfl))) <|
  fa_c (ok_p (xg_load _ _ _) (x_aload_n dX4_begun_5 rfl)) <|
  fa_c (ok_p (xg_load _ _ _) (x_iload_n dX4_begun_6 rfl)) <|
  fa_c (ok_c pT_102 pY_102 (x_callV (n := 1) (C := RX4) (T := TX4) (N := 6) rfl rfl kw174 kw176 kw0 kw59 kw177 (by decide +kernel) dX4_begun_7)) <|
  fa_c (ok_p (xg_store _ _ _) (x_astore dX4_begun_10)) <|
  fa_c (ok_p (xg_load _ _ _) (x_aload dX4_begun_12)) <|
  fa_c (ok_p (xg_null _ _) (x_ifnonnull dX4_begun_14 (by decide))) <|
  fa_c (ok_p (xg_st _ _) (x_iconst dX4_begun_17 rfl)) <|
  fa_c (ok_r ⟨rfl, dX4_begun_18⟩) <|
  fa_c (ok_p (xg_load _ _ _) (x_iload_n dX4_begun_19 rfl)) <|
  fa_c (ok_c pT_115 pY_115 (x_callS (n := 1) rfl kw178 kw179 kw59 kw180 (by decide +kernel) dX4_begun_20)) <|
  fa_c (ok_p (xg_if _ _ _) (x_if_eq dX4_begun_23 (by decide))) <|
  fa_c (ok_p (xg_load _ _ _) (x_iload dX4_begun_26)) <|
  fa_c (ok_p (xg_st _ _) (x_iconst dX4_begun_28 rfl)) <|
  fa_c (ok_p (xg_st _ _) (x_bipush dX4_begun_29 rfl)) <|
  fa_c (ok_c pT_114 pY_114 (x_callS (n := 3) rfl kw181 kw182 kw59 kw183 (by decide +kernel) dX4_begun_31)) <|
  fa_c (ok_p (xg_if _ _ _) (x_if_eq dX4_begun_34 (by decide))) <|
  fa_c (ok_p (xg_load _ _ _) (x_iload dX4_begun_37)) <|
  fa_c (ok_c pT_116 pY_116 (x_callS (n := 1) rfl kw380 kw381 kw59 kw382 (by decide +kernel) dX4_begun_39)) <|
  fa_c (ok_p (xg_if _ _ _) (x_if_eq dX4_begun_42 (by decide))) <|
  fa_c (ok_p (xg_load _ _ _) (x_iload dX4_begun_45)) <|
  fa_c (ok_p (xg_st _ _) (x_iconst dX4_begun_47 rfl)) <|
  fa_c (ok_p (xg_st _ _) (x_iconst dX4_begun_48 rfl)) <|
  fa_c (ok_c pT_114 pY_114 (x_callS (n := 3) rfl kw181 kw182 kw59 kw183 (by decide +kernel) dX4_begun_49)) <|
  fa_c (ok_p (xg_if _ _ _) (x_if_ne dX4_begun_52 (by decide))) <|
  fa_c (ok_p (xg_st _ _) (x_bipush dX4_begun_55 rfl)) <|
  fa_c (ok_r ⟨rfl, dX4_begun_57⟩) <|
  fa_c (ok_p (xg_load _ _ _) (x_aload_n dX4_begun_58 rfl)) <|
  fa_c (ok_p (xg_getf _ _ _) (x_getf (C := RX4) (T := TX4) (N := 6) rfl (by decide) inX4 kw152 dX4_begun_59)) <|
  fa_c (ok_c pT_8 pY_8 (x_callV (n := 0) (C := RX1) (T := TX1) (N := 10) rfl rfl kw367 kw368 kw369 kw61 kw370 (by decide +kernel) dX4_begun_62)) <|
  fa_c (ok_p (xg_if _ _ _) (x_if_ne dX4_begun_65 (by decide))) <|
  fa_c (ok_p (xg_st _ _) (x_bipush dX4_begun_68 rfl)) <|
  fa_c (ok_r ⟨rfl, dX4_begun_70⟩) <|
  fa_c (ok_p (xg_load _ _ _) (x_aload_n dX4_begun_71 rfl)) <|
  fa_c (ok_p (xg_load _ _ _) (x_aload dX4_begun_72)) <|
  fa_c (ok_p (xg_load _ _ _) (x_iload_n dX4_begun_74 rfl)) <|
  fa_c (ok_p (xg_load _ _ _) (x_iload_n dX4_begun_75 rfl)) <|
  fa_c (ok_p (xg_load _ _ _) (x_iload dX4_begun_76)) <|
  fa_c (ok_p (xg_load _ _ _) (x_aload_n dX4_begun_78 rfl)) <|
  fa_c (ok_p (xg_getf _ _ _) (x_getf (C := RX4) (T := TX4) (N := 6) rfl (by decide) inX4 kw152 dX4_begun_79)) <|
  fa_c (ok_c pT_11 pY_11 (x_callV (n := 0) (C := RX1) (T := TX1) (N := 10) rfl rfl kw271 kw272 kw273 kw61 kw274 (by decide +kernel) dX4_begun_82)) <|
  fa_c (ok_p (xg_st _ _) (x_imul dX4_begun_85)) <|
  fa_c (ok_c pT_104 pY_104 (x_callV (n := 4) (C := RX4) (T := TX4) (N := 6) rfl rfl kw184 kw186 kw1 kw59 kw187 (by decide +kernel) dX4_begun_86)) <|
  fa_c (ok_p (xg_store _ _ _) (x_istore dX4_begun_89)) <|
  fa_c (ok_p (xg_load _ _ _) (x_iload dX4_begun_91)) <|
  fa_c (ok_p (xg_if _ _ _) (x_if_eq dX4_begun_93 (by decide))) <|
  fa_c (ok_p (xg_load _ _ _) (x_aload_n dX4_begun_96 rfl)) <|
  fa_c (ok_p (xg_load _ _ _) (x_iload dX4_begun_97)) <|
  fa_c (ok_c pT_103 pY_103 (x_callV (n := 1) (C := RX4) (T := TX4) (N := 6) rfl rfl kw213 kw215 kw2 kw59 kw216 (by decide +kernel) dX4_begun_99)) <|
  fa_c (ok_r ⟨rfl, dX4_begun_102⟩) <|
  fa_c (ok_p (xg_load _ _ _) (x_aload_n dX4_begun_103 rfl)) <|
  fa_c (ok_p (xg_getf _ _ _) (x_getf (C := RX4) (T := TX4) (N := 6) rfl (by decide) inX4 kw152 dX4_begun_104)) <|
  fa_c (ok_p (xg_load _ _ _) (x_aload_n dX4_begun_107 rfl)) <|
  fa_c (ok_p (xg_getf _ _ _) (x_getf (C := RX4) (T := TX4) (N := 6) rfl (by decide) inX4 kw154 dX4_begun_108)) <|
  fa_c (ok_p (xg_load _ _ _) (x_iload dX4_begun_111)) <|
  fa_c (ok_p (xg_load _ _ _) (x_iload dX4_begun_113)) <|
  fa_c (ok_p (xg_load _ _ _) (x_iload dX4_begun_115)) <|
  fa_c (ok_c pT_48 pY_48 (x_callV (n := 4) (C := RX1) (T := TX1) (N := 10) rfl rfl kw485 kw486 kw487 kw61 kw488 (by decide +kernel) dX4_begun_117)) <|
  fa_c (ok_r ⟨rfl, dX4_begun_120⟩) <|
  fa_n
theorem dX4_run_0 : decode cX4_run 0 = .ok (.aload_n 0, 1) := by decide +kernel
theorem dX4_run_1 : decode cX4_run 1 = .ok (.iconst 0, 1) := by decide +kernel
theorem dX4_run_2 : decode cX4_run 2 = .ok (.putfield 36, 3) := by decide +kernel
theorem dX4_run_5 : decode cX4_run 5 = .ok (.aload_n 0, 1) := by decide +kernel
theorem dX4_run_6 : decode cX4_run 6 = .ok (.iload_n 1, 1) := by decide +kernel
theorem dX4_run_7 : decode cX4_run 7 = .ok (.invokevirtual 40, 3) := by decide +kernel
theorem dX4_run_10 : decode cX4_run 10 = .ok (.astore 6, 2) := by decide +kernel
theorem dX4_run_12 : decode cX4_run 12 = .ok (.aload 6, 2) := by decide +kernel
theorem dX4_run_14 : decode cX4_run 14 = .ok (.ifnonnull 5, 3) := by decide +kernel
theorem dX4_run_17 : decode cX4_run 17 = .ok (.iconst (-1), 1) := by decide +kernel
theorem dX4_run_18 : decode cX4_run 18 = .ok (.ireturn, 1) := by decide +kernel
theorem dX4_run_19 : decode cX4_run 19 = .ok (.iload_n 2, 1) := by decide +kernel
theorem dX4_run_20 : decode cX4_run 20 = .ok (.invokestatic 44, 3) := by decide +kernel
theorem dX4_run_23 : decode cX4_run 23 = .ok (.ifCond .eq 24, 3) := by decide +kernel
theorem dX4_run_26 : decode cX4_run 26 = .ok (.iload 4, 2) := by decide +kernel
theorem dX4_run_28 : decode cX4_run 28 = .ok (.iconst 1, 1) := by decide +kernel
theorem dX4_run_29 : decode cX4_run 29 = .ok (.bipush 40, 2) := by decide +kernel
theorem dX4_run_31 : decode cX4_run 31 = .ok (.invokestatic 141, 3) := by decide +kernel
theorem dX4_run_34 : decode cX4_run 34 = .ok (.ifCond .eq 13, 3) := by decide +kernel
theorem dX4_run_37 : decode cX4_run 37 = .ok (.iload 5, 2) := by decide +kernel
theorem dX4_run_39 : decode cX4_run 39 = .ok (.iconst 0, 1) := by decide +kernel
theorem dX4_run_40 : decode cX4_run 40 = .ok (.iconst 1, 1) := by decide +kernel
theorem dX4_run_41 : decode cX4_run 41 = .ok (.invokestatic 141, 3) := by decide +kernel
theorem dX4_run_44 : decode cX4_run 44 = .ok (.ifCond .ne 6, 3) := by decide +kernel
theorem dX4_run_47 : decode cX4_run 47 = .ok (.bipush (-2), 2) := by decide +kernel
theorem dX4_run_49 : decode cX4_run 49 = .ok (.ireturn, 1) := by decide +kernel
theorem dX4_run_50 : decode cX4_run 50 = .ok (.aload_n 0, 1) := by decide +kernel
theorem dX4_run_51 : decode cX4_run 51 = .ok (.aload 6, 2) := by decide +kernel
theorem dX4_run_53 : decode cX4_run 53 = .ok (.iload_n 2, 1) := by decide +kernel
theorem dX4_run_54 : decode cX4_run 54 = .ok (.iload_n 3, 1) := by decide +kernel
theorem dX4_run_55 : decode cX4_run 55 = .ok (.iload 4, 2) := by decide +kernel
theorem dX4_run_57 : decode cX4_run 57 = .ok (.invokevirtual 48, 3) := by decide +kernel
theorem dX4_run_60 : decode cX4_run 60 = .ok (.istore 7, 2) := by decide +kernel
theorem dX4_run_62 : decode cX4_run 62 = .ok (.iload 7, 2) := by decide +kernel
theorem dX4_run_64 : decode cX4_run 64 = .ok (.ifCond .eq 10, 3) := by decide +kernel
theorem dX4_run_67 : decode cX4_run 67 = .ok (.aload_n 0, 1) := by decide +kernel
theorem dX4_run_68 : decode cX4_run 68 = .ok (.iload 7, 2) := by decide +kernel
theorem dX4_run_70 : decode cX4_run 70 = .ok (.invokevirtual 52, 3) := by decide +kernel
theorem dX4_run_73 : decode cX4_run 73 = .ok (.ireturn, 1) := by decide +kernel
theorem dX4_run_74 : decode cX4_run 74 = .ok (.aload_n 0, 1) := by decide +kernel
theorem dX4_run_75 : decode cX4_run 75 = .ok (.iload 4, 2) := by decide +kernel
theorem dX4_run_77 : decode cX4_run 77 = .ok (.invokevirtual 166, 3) := by decide +kernel
theorem dX4_run_80 : decode cX4_run 80 = .ok (.istore 8, 2) := by decide +kernel
theorem dX4_run_82 : decode cX4_run 82 = .ok (.iload 5, 2) := by decide +kernel
theorem dX4_run_84 : decode cX4_run 84 = .ok (.ifCond .ne 8, 3) := by decide +kernel
theorem dX4_run_87 : decode cX4_run 87 = .ok (.iload 8, 2) := by decide +kernel
theorem dX4_run_89 : decode cX4_run 89 = .ok (.goto 15, 3) := by decide +kernel
theorem dX4_run_92 : decode cX4_run 92 = .ok (.aload_n 0, 1) := by decide +kernel
theorem dX4_run_93 : decode cX4_run 93 = .ok (.getfield 32, 3) := by decide +kernel
theorem dX4_run_96 : decode cX4_run 96 = .ok (.iload 4, 2) := by decide +kernel
theorem dX4_run_98 : decode cX4_run 98 = .ok (.iload 8, 2) := by decide +kernel
theorem dX4_run_100 : decode cX4_run 100 = .ok (.isub, 1) := by decide +kernel
theorem dX4_run_101 : decode cX4_run 101 = .ok (.invokestatic 145, 3) := by decide +kernel
theorem dX4_run_104 : decode cX4_run 104 = .ok (.ireturn, 1) := by decide +kernel
set_option maxRecDepth 20000 in
theorem tkX4_run : ∀ q ∈ tbX4_run, xOk (Zm false yX4_run.name) RX4 cX4_run 9 (some .int) pT pY q :=
  fa_c (ok_p (xg_load _ _ _) (x_aload_n dX4_run_0 rfl)) <|
  fa_c (ok_p (xg_st _ _) (x_iconst dX4_run_1 rfl)) <|
  fa_c (ok_p (xg_putf _ _ _ _) (x_putfof (C := RX4) (T := TX4) (N := 6) tyX4 tyX4_ok nmX4 rfl (by decide) inX4 kw156 dX4_run_2 (tyX4_ok 5 (by decide)) (fun _ _ _ _ _ _ => Or.inl rfl))) <|
  fa_c (ok_p (xg_load _ _ _) (x_aload_n dX4_run_5 rfl)) <|
  fa_c (ok_p (xg_load _ _ _) (x_iload_n dX4_run_6 rfl)) <|
  fa_c (ok_c pT_102 pY_102 (x_callV (n := 1) (C := RX4) (T := TX4) (N := 6) rfl rfl kw174 kw176 kw0 kw59 kw177 (by decide +kernel) dX4_run_7)) <|
  fa_c (ok_p (xg_store _ _ _) (x_astore dX4_run_10)) <|
  fa_c (ok_p (xg_load _ _ _) (x_aload dX4_run_12)) <|
  fa_c (ok_p (xg_null _ _) (x_ifnonnull dX4_run_14 (by decide))) <|
  fa_c (ok_p (xg_st _ _) (x_iconst dX4_run_17 rfl)) <|
  fa_c (ok_r ⟨rfl, dX4_run_18⟩) <|
  fa_c (ok_p (xg_load _ _ _) (x_iload_n dX4_run_19 rfl)) <|
  fa_c (ok_c pT_115 pY_115 (x_callS (n := 1) rfl kw178 kw179 kw59 kw180 (by decide +kernel) dX4_run_20)) <|
  fa_c (ok_p (xg_if _ _ _) (x_if_eq dX4_run_23 (by decide))) <|
  fa_c (ok_p (xg_load _ _ _) (x_iload dX4_run_26)) <|
  fa_c (ok_p (xg_st _ _) (x_iconst dX4_run_28 rfl)) <|
  fa_c (ok_p (xg_st _ _) (x_bipush dX4_run_29 rfl)) <|
  fa_c (ok_c pT_114 pY_114 (x_callS (n := 3) rfl kw181 kw182 kw59 kw183 (by decide +kernel) dX4_run_31)) <|
  fa_c (ok_p (xg_if _ _ _) (x_if_eq dX4_run_34 (by decide))) <|
  fa_c (ok_p (xg_load _ _ _) (x_iload dX4_run_37)) <|
  fa_c (ok_p (xg_st _ _) (x_iconst dX4_run_39 rfl)) <|
  fa_c (ok_p (xg_st _ _) (x_iconst dX4_run_40 rfl)) <|
  fa_c (ok_c pT_114 pY_114 (x_callS (n := 3) rfl kw181 kw182 kw59 kw183 (by decide +kernel) dX4_run_41)) <|
  fa_c (ok_p (xg_if _ _ _) (x_if_ne dX4_run_44 (by decide))) <|
  fa_c (ok_p (xg_st _ _) (x_bipush dX4_run_47 rfl)) <|
  fa_c (ok_r ⟨rfl, dX4_run_49⟩) <|
  fa_c (ok_p (xg_load _ _ _) (x_aload_n dX4_run_50 rfl)) <|
  fa_c (ok_p (xg_load _ _ _) (x_aload dX4_run_51)) <|
  fa_c (ok_p (xg_load _ _ _) (x_iload_n dX4_run_53 rfl)) <|
  fa_c (ok_p (xg_load _ _ _) (x_iload_n dX4_run_54 rfl)) <|
  fa_c (ok_p (xg_load _ _ _) (x_iload dX4_run_55)) <|
  fa_c (ok_c pT_104 pY_104 (x_callV (n := 4) (C := RX4) (T := TX4) (N := 6) rfl rfl kw184 kw186 kw1 kw59 kw187 (by decide +kernel) dX4_run_57)) <|
  fa_c (ok_p (xg_store _ _ _) (x_istore dX4_run_60)) <|
  fa_c (ok_p (xg_load _ _ _) (x_iload dX4_run_62)) <|
  fa_c (ok_p (xg_if _ _ _) (x_if_eq dX4_run_64 (by decide))) <|
  fa_c (ok_p (xg_load _ _ _) (x_aload_n dX4_run_67 rfl)) <|
  fa_c (ok_p (xg_load _ _ _) (x_iload dX4_run_68)) <|
  fa_c (ok_c pT_103 pY_103 (x_callV (n := 1) (C := RX4) (T := TX4) (N := 6) rfl rfl kw213 kw215 kw2 kw59 kw216 (by decide +kernel) dX4_run_70)) <|
  fa_c (ok_r ⟨rfl, dX4_run_73⟩) <|
  fa_c (ok_p (xg_load _ _ _) (x_aload_n dX4_run_74 rfl)) <|
  fa_c (ok_p (xg_load _ _ _) (x_iload dX4_run_75)) <|
  fa_c (ok_c pT_106 pY_106 (x_callV (n := 1) (C := RX4) (T := TX4) (N := 6) rfl rfl kw506 kw508 kw17 kw59 kw509 (by decide +kernel) dX4_run_77)) <|
  fa_c (ok_p (xg_store _ _ _) (x_istore dX4_run_80)) <|
  fa_c (ok_p (xg_load _ _ _) (x_iload dX4_run_82)) <|
  fa_c (ok_p (xg_if _ _ _) (x_if_ne dX4_run_84 (by decide))) <|
  fa_c (ok_p (xg_load _ _ _) (x_iload dX4_run_87)) <|
  fa_c (ok_p (xg_st _ _) (x_goto dX4_run_89 (by decide))) <|
  fa_c (ok_p (xg_load _ _ _) (x_aload_n dX4_run_92 rfl)) <|
  fa_c (ok_p (xg_getf _ _ _) (x_getf (C := RX4) (T := TX4) (N := 6) rfl (by decide) inX4 kw154 dX4_run_93)) <|
  fa_c (ok_p (xg_load _ _ _) (x_iload dX4_run_96)) <|
  fa_c (ok_p (xg_load _ _ _) (x_iload dX4_run_98)) <|
  fa_c (ok_p (xg_st _ _) (x_isub dX4_run_100)) <|
  fa_c (ok_c pT_119 pY_119 (x_callS (n := 2) rfl kw409 kw208 kw59 kw209 (by decide +kernel) dX4_run_101)) <|
  fa_c (ok_r ⟨rfl, dX4_run_104⟩) <|
  fa_n
theorem dX4_reading_0 : decode cX4_reading 0 = .ok (.aload_n 0, 1) := by decide +kernel
theorem dX4_reading_1 : decode cX4_reading 1 = .ok (.getfield 21, 3) := by decide +kernel
theorem dX4_reading_4 : decode cX4_reading 4 = .ok (.iload_n 1, 1) := by decide +kernel
theorem dX4_reading_5 : decode cX4_reading 5 = .ok (.invokevirtual 74, 3) := by decide +kernel
theorem dX4_reading_8 : decode cX4_reading 8 = .ok (.ifCond .ne 5, 3) := by decide +kernel
theorem dX4_reading_11 : decode cX4_reading 11 = .ok (.iconst (-1), 1) := by decide +kernel
theorem dX4_reading_12 : decode cX4_reading 12 = .ok (.ireturn, 1) := by decide +kernel
theorem dX4_reading_13 : decode cX4_reading 13 = .ok (.iload_n 2, 1) := by decide +kernel
theorem dX4_reading_14 : decode cX4_reading 14 = .ok (.invokestatic 99, 3) := by decide +kernel
theorem dX4_reading_17 : decode cX4_reading 17 = .ok (.ifCond .eq 13, 3) := by decide +kernel
theorem dX4_reading_20 : decode cX4_reading 20 = .ok (.iload_n 3, 1) := by decide +kernel
theorem dX4_reading_21 : decode cX4_reading 21 = .ok (.iconst 0, 1) := by decide +kernel
theorem dX4_reading_22 : decode cX4_reading 22 = .ok (.bipush 20, 2) := by decide +kernel
theorem dX4_reading_24 : decode cX4_reading 24 = .ok (.invokestatic 141, 3) := by decide +kernel
theorem dX4_reading_27 : decode cX4_reading 27 = .ok (.ifCond .ne 6, 3) := by decide +kernel
theorem dX4_reading_30 : decode cX4_reading 30 = .ok (.bipush (-2), 2) := by decide +kernel
theorem dX4_reading_32 : decode cX4_reading 32 = .ok (.ireturn, 1) := by decide +kernel
theorem dX4_reading_33 : decode cX4_reading 33 = .ok (.aload_n 0, 1) := by decide +kernel
theorem dX4_reading_34 : decode cX4_reading 34 = .ok (.getfield 28, 3) := by decide +kernel
theorem dX4_reading_37 : decode cX4_reading 37 = .ok (.invokevirtual 169, 3) := by decide +kernel
theorem dX4_reading_40 : decode cX4_reading 40 = .ok (.ifCond .eq 6, 3) := by decide +kernel
theorem dX4_reading_43 : decode cX4_reading 43 = .ok (.bipush (-4), 2) := by decide +kernel
theorem dX4_reading_45 : decode cX4_reading 45 = .ok (.ireturn, 1) := by decide +kernel
theorem dX4_reading_46 : decode cX4_reading 46 = .ok (.aload_n 0, 1) := by decide +kernel
theorem dX4_reading_47 : decode cX4_reading 47 = .ok (.getfield 28, 3) := by decide +kernel
theorem dX4_reading_50 : decode cX4_reading 50 = .ok (.iload_n 1, 1) := by decide +kernel
theorem dX4_reading_51 : decode cX4_reading 51 = .ok (.iload_n 2, 1) := by decide +kernel
theorem dX4_reading_52 : decode cX4_reading 52 = .ok (.iload_n 3, 1) := by decide +kernel
theorem dX4_reading_53 : decode cX4_reading 53 = .ok (.invokevirtual 172, 3) := by decide +kernel
theorem dX4_reading_56 : decode cX4_reading 56 = .ok (.ireturn, 1) := by decide +kernel
set_option maxRecDepth 20000 in
theorem tkX4_reading : ∀ q ∈ tbX4_reading, xOk (Zm false yX4_reading.name) RX4 cX4_reading 4 (some .int) pT pY q :=
  fa_c (ok_p (xg_load _ _ _) (x_aload_n dX4_reading_0 rfl)) <|
  fa_c (ok_p (xg_getf _ _ _) (x_getf (C := RX4) (T := TX4) (N := 6) rfl (by decide) inX4 kw152 dX4_reading_1)) <|
  fa_c (ok_p (xg_load _ _ _) (x_iload_n dX4_reading_4 rfl)) <|
  fa_c (ok_c pT_17 pY_17 (x_callV (n := 1) (C := RX1) (T := TX1) (N := 10) rfl rfl kw279 kw280 kw281 kw61 kw282 (by decide +kernel) dX4_reading_5)) <|
  fa_c (ok_p (xg_if _ _ _) (x_if_ne dX4_reading_8 (by decide))) <|
  fa_c (ok_p (xg_st _ _) (x_iconst dX4_reading_11 rfl)) <|
  fa_c (ok_r ⟨rfl, dX4_reading_12⟩) <|
  fa_c (ok_p (xg_load _ _ _) (x_iload_n dX4_reading_13 rfl)) <|
  fa_c (ok_c pT_117 pY_117 (x_callS (n := 1) rfl kw328 kw329 kw59 kw330 (by decide +kernel) dX4_reading_14)) <|
  fa_c (ok_p (xg_if _ _ _) (x_if_eq dX4_reading_17 (by decide))) <|
  fa_c (ok_p (xg_load _ _ _) (x_iload_n dX4_reading_20 rfl)) <|
  fa_c (ok_p (xg_st _ _) (x_iconst dX4_reading_21 rfl)) <|
  fa_c (ok_p (xg_st _ _) (x_bipush dX4_reading_22 rfl)) <|
  fa_c (ok_c pT_114 pY_114 (x_callS (n := 3) rfl kw181 kw182 kw59 kw183 (by decide +kernel) dX4_reading_24)) <|
  fa_c (ok_p (xg_if _ _ _) (x_if_ne dX4_reading_27 (by decide))) <|
  fa_c (ok_p (xg_st _ _) (x_bipush dX4_reading_30 rfl)) <|
  fa_c (ok_r ⟨rfl, dX4_reading_32⟩) <|
  fa_c (ok_p (xg_load _ _ _) (x_aload_n dX4_reading_33 rfl)) <|
  fa_c (ok_p (xg_getf _ _ _) (x_getf (C := RX4) (T := TX4) (N := 6) rfl (by decide) inX4 kw153 dX4_reading_34)) <|
  fa_c (ok_c pT_2 pY_2 (x_callV (n := 0) (C := RX0) (T := TX0) (N := 4) rfl rfl kw518 kw519 kw520 kw62 kw521 (by decide +kernel) dX4_reading_37)) <|
  fa_c (ok_p (xg_if _ _ _) (x_if_eq dX4_reading_40 (by decide))) <|
  fa_c (ok_p (xg_st _ _) (x_bipush dX4_reading_43 rfl)) <|
  fa_c (ok_r ⟨rfl, dX4_reading_45⟩) <|
  fa_c (ok_p (xg_load _ _ _) (x_aload_n dX4_reading_46 rfl)) <|
  fa_c (ok_p (xg_getf _ _ _) (x_getf (C := RX4) (T := TX4) (N := 6) rfl (by decide) inX4 kw153 dX4_reading_47)) <|
  fa_c (ok_p (xg_load _ _ _) (x_iload_n dX4_reading_50 rfl)) <|
  fa_c (ok_p (xg_load _ _ _) (x_iload_n dX4_reading_51 rfl)) <|
  fa_c (ok_p (xg_load _ _ _) (x_iload_n dX4_reading_52 rfl)) <|
  fa_c (ok_c pT_3 pY_3 (x_callV (n := 3) (C := RX0) (T := TX0) (N := 4) rfl rfl kw522 kw523 kw524 kw62 kw525 (by decide +kernel) dX4_reading_53)) <|
  fa_c (ok_r ⟨rfl, dX4_reading_56⟩) <|
  fa_n
theorem dX4_back_0 : decode cX4_back 0 = .ok (.iload_n 1, 1) := by decide +kernel
theorem dX4_back_1 : decode cX4_back 1 = .ok (.iconst 0, 1) := by decide +kernel
theorem dX4_back_2 : decode cX4_back 2 = .ok (.aload_n 0, 1) := by decide +kernel
theorem dX4_back_3 : decode cX4_back 3 = .ok (.getfield 28, 3) := by decide +kernel
theorem dX4_back_6 : decode cX4_back 6 = .ok (.invokevirtual 176, 3) := by decide +kernel
theorem dX4_back_9 : decode cX4_back 9 = .ok (.invokestatic 141, 3) := by decide +kernel
theorem dX4_back_12 : decode cX4_back 12 = .ok (.ifCond .ne 6, 3) := by decide +kernel
theorem dX4_back_15 : decode cX4_back 15 = .ok (.bipush (-2), 2) := by decide +kernel
theorem dX4_back_17 : decode cX4_back 17 = .ok (.ireturn, 1) := by decide +kernel
theorem dX4_back_18 : decode cX4_back 18 = .ok (.aload_n 0, 1) := by decide +kernel
theorem dX4_back_19 : decode cX4_back 19 = .ok (.getfield 28, 3) := by decide +kernel
theorem dX4_back_22 : decode cX4_back 22 = .ok (.aload_n 0, 1) := by decide +kernel
theorem dX4_back_23 : decode cX4_back 23 = .ok (.getfield 28, 3) := by decide +kernel
theorem dX4_back_26 : decode cX4_back 26 = .ok (.invokevirtual 176, 3) := by decide +kernel
theorem dX4_back_29 : decode cX4_back 29 = .ok (.iload_n 1, 1) := by decide +kernel
theorem dX4_back_30 : decode cX4_back 30 = .ok (.isub, 1) := by decide +kernel
theorem dX4_back_31 : decode cX4_back 31 = .ok (.invokevirtual 66, 3) := by decide +kernel
theorem dX4_back_34 : decode cX4_back 34 = .ok (.aload_n 0, 1) := by decide +kernel
theorem dX4_back_35 : decode cX4_back 35 = .ok (.getfield 28, 3) := by decide +kernel
theorem dX4_back_38 : decode cX4_back 38 = .ok (.invokevirtual 176, 3) := by decide +kernel
theorem dX4_back_41 : decode cX4_back 41 = .ok (.ireturn, 1) := by decide +kernel
set_option maxRecDepth 20000 in
theorem tkX4_back : ∀ q ∈ tbX4_back, xOk (Zm false yX4_back.name) RX4 cX4_back 2 (some .int) pT pY q :=
  fa_c (ok_p (xg_load _ _ _) (x_iload_n dX4_back_0 rfl)) <|
  fa_c (ok_p (xg_st _ _) (x_iconst dX4_back_1 rfl)) <|
  fa_c (ok_p (xg_load _ _ _) (x_aload_n dX4_back_2 rfl)) <|
  fa_c (ok_p (xg_getf _ _ _) (x_getf (C := RX4) (T := TX4) (N := 6) rfl (by decide) inX4 kw153 dX4_back_3)) <|
  fa_c (ok_c pT_1 pY_1 (x_callV (n := 0) (C := RX0) (T := TX0) (N := 4) rfl rfl kw531 kw532 kw533 kw62 kw534 (by decide +kernel) dX4_back_6)) <|
  fa_c (ok_c pT_114 pY_114 (x_callS (n := 3) rfl kw181 kw182 kw59 kw183 (by decide +kernel) dX4_back_9)) <|
  fa_c (ok_p (xg_if _ _ _) (x_if_ne dX4_back_12 (by decide))) <|
  fa_c (ok_p (xg_st _ _) (x_bipush dX4_back_15 rfl)) <|
  fa_c (ok_r ⟨rfl, dX4_back_17⟩) <|
  fa_c (ok_p (xg_load _ _ _) (x_aload_n dX4_back_18 rfl)) <|
  fa_c (ok_p (xg_getf _ _ _) (x_getf (C := RX4) (T := TX4) (N := 6) rfl (by decide) inX4 kw153 dX4_back_19)) <|
  fa_c (ok_p (xg_load _ _ _) (x_aload_n dX4_back_22 rfl)) <|
  fa_c (ok_p (xg_getf _ _ _) (x_getf (C := RX4) (T := TX4) (N := 6) rfl (by decide) inX4 kw153 dX4_back_23)) <|
  fa_c (ok_c pT_1 pY_1 (x_callV (n := 0) (C := RX0) (T := TX0) (N := 4) rfl rfl kw531 kw532 kw533 kw62 kw534 (by decide +kernel) dX4_back_26)) <|
  fa_c (ok_p (xg_load _ _ _) (x_iload_n dX4_back_29 rfl)) <|
  fa_c (ok_p (xg_st _ _) (x_isub dX4_back_30)) <|
  fa_c (ok_c pT_4 pY_4 (x_callV (n := 1) (C := RX0) (T := TX0) (N := 4) rfl rfl kw267 kw268 kw269 kw62 kw270 (by decide +kernel) dX4_back_31)) <|
  fa_c (ok_p (xg_load _ _ _) (x_aload_n dX4_back_34 rfl)) <|
  fa_c (ok_p (xg_getf _ _ _) (x_getf (C := RX4) (T := TX4) (N := 6) rfl (by decide) inX4 kw153 dX4_back_35)) <|
  fa_c (ok_c pT_1 pY_1 (x_callV (n := 0) (C := RX0) (T := TX0) (N := 4) rfl rfl kw531 kw532 kw533 kw62 kw534 (by decide +kernel) dX4_back_38)) <|
  fa_c (ok_r ⟨rfl, dX4_back_41⟩) <|
  fa_n
theorem dX4_shorts_0 : decode cX4_shorts 0 = .ok (.aload_n 0, 1) := by decide +kernel
theorem dX4_shorts_1 : decode cX4_shorts 1 = .ok (.getfield 21, 3) := by decide +kernel
theorem dX4_shorts_4 : decode cX4_shorts 4 = .ok (.iload_n 1, 1) := by decide +kernel
theorem dX4_shorts_5 : decode cX4_shorts 5 = .ok (.invokevirtual 74, 3) := by decide +kernel
theorem dX4_shorts_8 : decode cX4_shorts 8 = .ok (.ifCond .ne 5, 3) := by decide +kernel
theorem dX4_shorts_11 : decode cX4_shorts 11 = .ok (.iconst (-1), 1) := by decide +kernel
theorem dX4_shorts_12 : decode cX4_shorts 12 = .ok (.ireturn, 1) := by decide +kernel
theorem dX4_shorts_13 : decode cX4_shorts 13 = .ok (.iconst 0, 1) := by decide +kernel
theorem dX4_shorts_14 : decode cX4_shorts 14 = .ok (.istore_n 2, 1) := by decide +kernel
theorem dX4_shorts_15 : decode cX4_shorts 15 = .ok (.iconst 0, 1) := by decide +kernel
theorem dX4_shorts_16 : decode cX4_shorts 16 = .ok (.istore_n 3, 1) := by decide +kernel
theorem dX4_shorts_17 : decode cX4_shorts 17 = .ok (.iload_n 3, 1) := by decide +kernel
theorem dX4_shorts_18 : decode cX4_shorts 18 = .ok (.bipush 9, 2) := by decide +kernel
theorem dX4_shorts_20 : decode cX4_shorts 20 = .ok (.if_icmp .gt 39, 3) := by decide +kernel
theorem dX4_shorts_23 : decode cX4_shorts 23 = .ok (.aload_n 0, 1) := by decide +kernel
theorem dX4_shorts_24 : decode cX4_shorts 24 = .ok (.getfield 28, 3) := by decide +kernel
theorem dX4_shorts_27 : decode cX4_shorts 27 = .ok (.aload_n 0, 1) := by decide +kernel
theorem dX4_shorts_28 : decode cX4_shorts 28 = .ok (.getfield 21, 3) := by decide +kernel
theorem dX4_shorts_31 : decode cX4_shorts 31 = .ok (.iload_n 1, 1) := by decide +kernel
theorem dX4_shorts_32 : decode cX4_shorts 32 = .ok (.aload_n 0, 1) := by decide +kernel
theorem dX4_shorts_33 : decode cX4_shorts 33 = .ok (.getfield 21, 3) := by decide +kernel
theorem dX4_shorts_36 : decode cX4_shorts 36 = .ok (.iload_n 1, 1) := by decide +kernel
theorem dX4_shorts_37 : decode cX4_shorts 37 = .ok (.invokevirtual 77, 3) := by decide +kernel
theorem dX4_shorts_40 : decode cX4_shorts 40 = .ok (.iload_n 3, 1) := by decide +kernel
theorem dX4_shorts_41 : decode cX4_shorts 41 = .ok (.invokevirtual 179, 3) := by decide +kernel
theorem dX4_shorts_44 : decode cX4_shorts 44 = .ok (.ifCond .eq 9, 3) := by decide +kernel
theorem dX4_shorts_47 : decode cX4_shorts 47 = .ok (.iload_n 2, 1) := by decide +kernel
theorem dX4_shorts_48 : decode cX4_shorts 48 = .ok (.iconst 1, 1) := by decide +kernel
theorem dX4_shorts_49 : decode cX4_shorts 49 = .ok (.iload_n 3, 1) := by decide +kernel
theorem dX4_shorts_50 : decode cX4_shorts 50 = .ok (.ishl, 1) := by decide +kernel
theorem dX4_shorts_51 : decode cX4_shorts 51 = .ok (.ior, 1) := by decide +kernel
theorem dX4_shorts_52 : decode cX4_shorts 52 = .ok (.istore_n 2, 1) := by decide +kernel
theorem dX4_shorts_53 : decode cX4_shorts 53 = .ok (.iinc 3 1, 3) := by decide +kernel
theorem dX4_shorts_56 : decode cX4_shorts 56 = .ok (.goto (-39), 3) := by decide +kernel
theorem dX4_shorts_59 : decode cX4_shorts 59 = .ok (.iload_n 2, 1) := by decide +kernel
theorem dX4_shorts_60 : decode cX4_shorts 60 = .ok (.ireturn, 1) := by decide +kernel
set_option maxRecDepth 20000 in
theorem tkX4_shorts : ∀ q ∈ tbX4_shorts, xOk (Zm false yX4_shorts.name) RX4 cX4_shorts 4 (some .int) pT pY q :=
  fa_c (ok_p (xg_load _ _ _) (x_aload_n dX4_shorts_0 rfl)) <|
  fa_c (ok_p (xg_getf _ _ _) (x_getf (C := RX4) (T := TX4) (N := 6) rfl (by decide) inX4 kw152 dX4_shorts_1)) <|
  fa_c (ok_p (xg_load _ _ _) (x_iload_n dX4_shorts_4 rfl)) <|
  fa_c (ok_c pT_17 pY_17 (x_callV (n := 1) (C := RX1) (T := TX1) (N := 10) rfl rfl kw279 kw280 kw281 kw61 kw282 (by decide +kernel) dX4_shorts_5)) <|
  fa_c (ok_p (xg_if _ _ _) (x_if_ne dX4_shorts_8 (by decide))) <|
  fa_c (ok_p (xg_st _ _) (x_iconst dX4_shorts_11 rfl)) <|
  fa_c (ok_r ⟨rfl, dX4_shorts_12⟩) <|
  fa_c (ok_p (xg_st _ _) (x_iconst dX4_shorts_13 rfl)) <|
  fa_c (ok_p (xg_store _ _ _) (x_istore_n dX4_shorts_14 rfl)) <|
  fa_c (ok_p (xg_st _ _) (x_iconst dX4_shorts_15 rfl)) <|
  fa_c (ok_p (xg_store _ _ _) (x_istore_n dX4_shorts_16 rfl)) <|
  fa_c (ok_p (xg_load _ _ _) (x_iload_n dX4_shorts_17 rfl)) <|
  fa_c (ok_p (xg_st _ _) (x_bipush dX4_shorts_18 rfl)) <|
  fa_c (ok_p (xg_icmp _ _ _) (x_icmp_gt dX4_shorts_20 (by decide))) <|
  fa_c (ok_p (xg_load _ _ _) (x_aload_n dX4_shorts_23 rfl)) <|
  fa_c (ok_p (xg_getf _ _ _) (x_getf (C := RX4) (T := TX4) (N := 6) rfl (by decide) inX4 kw153 dX4_shorts_24)) <|
  fa_c (ok_p (xg_load _ _ _) (x_aload_n dX4_shorts_27 rfl)) <|
  fa_c (ok_p (xg_getf _ _ _) (x_getf (C := RX4) (T := TX4) (N := 6) rfl (by decide) inX4 kw152 dX4_shorts_28)) <|
  fa_c (ok_p (xg_load _ _ _) (x_iload_n dX4_shorts_31 rfl)) <|
  fa_c (ok_p (xg_load _ _ _) (x_aload_n dX4_shorts_32 rfl)) <|
  fa_c (ok_p (xg_getf _ _ _) (x_getf (C := RX4) (T := TX4) (N := 6) rfl (by decide) inX4 kw152 dX4_shorts_33)) <|
  fa_c (ok_p (xg_load _ _ _) (x_iload_n dX4_shorts_36 rfl)) <|
  fa_c (ok_c pT_20 pY_20 (x_callV (n := 1) (C := RX1) (T := TX1) (N := 10) rfl rfl kw283 kw284 kw285 kw61 kw286 (by decide +kernel) dX4_shorts_37)) <|
  fa_c (ok_p (xg_load _ _ _) (x_iload_n dX4_shorts_40 rfl)) <|
  fa_c (ok_c pT_5 pY_5 (x_callV (n := 4) (C := RX0) (T := TX0) (N := 4) rfl rfl kw539 kw540 kw541 kw62 kw542 (by decide +kernel) dX4_shorts_41)) <|
  fa_c (ok_p (xg_if _ _ _) (x_if_eq dX4_shorts_44 (by decide))) <|
  fa_c (ok_p (xg_load _ _ _) (x_iload_n dX4_shorts_47 rfl)) <|
  fa_c (ok_p (xg_st _ _) (x_iconst dX4_shorts_48 rfl)) <|
  fa_c (ok_p (xg_load _ _ _) (x_iload_n dX4_shorts_49 rfl)) <|
  fa_c (ok_p (xg_st _ _) (x_ishl dX4_shorts_50)) <|
  fa_c (ok_p (xg_st _ _) (x_ior dX4_shorts_51)) <|
  fa_c (ok_p (xg_store _ _ _) (x_istore_n dX4_shorts_52 rfl)) <|
  fa_c (ok_p (xg_iinc _ _ _) (x_iinc dX4_shorts_53 rfl)) <|
  fa_c (ok_p (xg_st _ _) (x_goto dX4_shorts_56 (by decide))) <|
  fa_c (ok_p (xg_load _ _ _) (x_iload_n dX4_shorts_59 rfl)) <|
  fa_c (ok_r ⟨rfl, dX4_shorts_60⟩) <|
  fa_n
theorem dX4_kinds_0 : decode cX4_kinds 0 = .ok (.aload_n 0, 1) := by decide +kernel
theorem dX4_kinds_1 : decode cX4_kinds 1 = .ok (.getfield 21, 3) := by decide +kernel
theorem dX4_kinds_4 : decode cX4_kinds 4 = .ok (.iload_n 1, 1) := by decide +kernel
theorem dX4_kinds_5 : decode cX4_kinds 5 = .ok (.invokevirtual 74, 3) := by decide +kernel
theorem dX4_kinds_8 : decode cX4_kinds 8 = .ok (.ifCond .ne 5, 3) := by decide +kernel
theorem dX4_kinds_11 : decode cX4_kinds 11 = .ok (.iconst (-1), 1) := by decide +kernel
theorem dX4_kinds_12 : decode cX4_kinds 12 = .ok (.ireturn, 1) := by decide +kernel
theorem dX4_kinds_13 : decode cX4_kinds 13 = .ok (.iconst 0, 1) := by decide +kernel
theorem dX4_kinds_14 : decode cX4_kinds 14 = .ok (.istore_n 2, 1) := by decide +kernel
theorem dX4_kinds_15 : decode cX4_kinds 15 = .ok (.iconst 0, 1) := by decide +kernel
theorem dX4_kinds_16 : decode cX4_kinds 16 = .ok (.istore_n 3, 1) := by decide +kernel
theorem dX4_kinds_17 : decode cX4_kinds 17 = .ok (.iload_n 3, 1) := by decide +kernel
theorem dX4_kinds_18 : decode cX4_kinds 18 = .ok (.iconst 2, 1) := by decide +kernel
theorem dX4_kinds_19 : decode cX4_kinds 19 = .ok (.if_icmp .gt 39, 3) := by decide +kernel
theorem dX4_kinds_22 : decode cX4_kinds 22 = .ok (.aload_n 0, 1) := by decide +kernel
theorem dX4_kinds_23 : decode cX4_kinds 23 = .ok (.getfield 28, 3) := by decide +kernel
theorem dX4_kinds_26 : decode cX4_kinds 26 = .ok (.aload_n 0, 1) := by decide +kernel
theorem dX4_kinds_27 : decode cX4_kinds 27 = .ok (.getfield 21, 3) := by decide +kernel
theorem dX4_kinds_30 : decode cX4_kinds 30 = .ok (.iload_n 1, 1) := by decide +kernel
theorem dX4_kinds_31 : decode cX4_kinds 31 = .ok (.iload_n 3, 1) := by decide +kernel
theorem dX4_kinds_32 : decode cX4_kinds 32 = .ok (.aload_n 0, 1) := by decide +kernel
theorem dX4_kinds_33 : decode cX4_kinds 33 = .ok (.getfield 21, 3) := by decide +kernel
theorem dX4_kinds_36 : decode cX4_kinds 36 = .ok (.iload_n 1, 1) := by decide +kernel
theorem dX4_kinds_37 : decode cX4_kinds 37 = .ok (.invokevirtual 80, 3) := by decide +kernel
theorem dX4_kinds_40 : decode cX4_kinds 40 = .ok (.invokevirtual 179, 3) := by decide +kernel
theorem dX4_kinds_43 : decode cX4_kinds 43 = .ok (.ifCond .eq 9, 3) := by decide +kernel
theorem dX4_kinds_46 : decode cX4_kinds 46 = .ok (.iload_n 2, 1) := by decide +kernel
theorem dX4_kinds_47 : decode cX4_kinds 47 = .ok (.iconst 1, 1) := by decide +kernel
theorem dX4_kinds_48 : decode cX4_kinds 48 = .ok (.iload_n 3, 1) := by decide +kernel
theorem dX4_kinds_49 : decode cX4_kinds 49 = .ok (.ishl, 1) := by decide +kernel
theorem dX4_kinds_50 : decode cX4_kinds 50 = .ok (.ior, 1) := by decide +kernel
theorem dX4_kinds_51 : decode cX4_kinds 51 = .ok (.istore_n 2, 1) := by decide +kernel
theorem dX4_kinds_52 : decode cX4_kinds 52 = .ok (.iinc 3 1, 3) := by decide +kernel
theorem dX4_kinds_55 : decode cX4_kinds 55 = .ok (.goto (-38), 3) := by decide +kernel
theorem dX4_kinds_58 : decode cX4_kinds 58 = .ok (.iload_n 2, 1) := by decide +kernel
theorem dX4_kinds_59 : decode cX4_kinds 59 = .ok (.ireturn, 1) := by decide +kernel
set_option maxRecDepth 20000 in
theorem tkX4_kinds : ∀ q ∈ tbX4_kinds, xOk (Zm false yX4_kinds.name) RX4 cX4_kinds 4 (some .int) pT pY q :=
  fa_c (ok_p (xg_load _ _ _) (x_aload_n dX4_kinds_0 rfl)) <|
  fa_c (ok_p (xg_getf _ _ _) (x_getf (C := RX4) (T := TX4) (N := 6) rfl (by decide) inX4 kw152 dX4_kinds_1)) <|
  fa_c (ok_p (xg_load _ _ _) (x_iload_n dX4_kinds_4 rfl)) <|
  fa_c (ok_c pT_17 pY_17 (x_callV (n := 1) (C := RX1) (T := TX1) (N := 10) rfl rfl kw279 kw280 kw281 kw61 kw282 (by decide +kernel) dX4_kinds_5)) <|
  fa_c (ok_p (xg_if _ _ _) (x_if_ne dX4_kinds_8 (by decide))) <|
  fa_c (ok_p (xg_st _ _) (x_iconst dX4_kinds_11 rfl)) <|
  fa_c (ok_r ⟨rfl, dX4_kinds_12⟩) <|
  fa_c (ok_p (xg_st _ _) (x_iconst dX4_kinds_13 rfl)) <|
  fa_c (ok_p (xg_store _ _ _) (x_istore_n dX4_kinds_14 rfl)) <|
  fa_c (ok_p (xg_st _ _) (x_iconst dX4_kinds_15 rfl)) <|
  fa_c (ok_p (xg_store _ _ _) (x_istore_n dX4_kinds_16 rfl)) <|
  fa_c (ok_p (xg_load _ _ _) (x_iload_n dX4_kinds_17 rfl)) <|
  fa_c (ok_p (xg_st _ _) (x_iconst dX4_kinds_18 rfl)) <|
  fa_c (ok_p (xg_icmp _ _ _) (x_icmp_gt dX4_kinds_19 (by decide))) <|
  fa_c (ok_p (xg_load _ _ _) (x_aload_n dX4_kinds_22 rfl)) <|
  fa_c (ok_p (xg_getf _ _ _) (x_getf (C := RX4) (T := TX4) (N := 6) rfl (by decide) inX4 kw153 dX4_kinds_23)) <|
  fa_c (ok_p (xg_load _ _ _) (x_aload_n dX4_kinds_26 rfl)) <|
  fa_c (ok_p (xg_getf _ _ _) (x_getf (C := RX4) (T := TX4) (N := 6) rfl (by decide) inX4 kw152 dX4_kinds_27)) <|
  fa_c (ok_p (xg_load _ _ _) (x_iload_n dX4_kinds_30 rfl)) <|
  fa_c (ok_p (xg_load _ _ _) (x_iload_n dX4_kinds_31 rfl)) <|
  fa_c (ok_p (xg_load _ _ _) (x_aload_n dX4_kinds_32 rfl)) <|
  fa_c (ok_p (xg_getf _ _ _) (x_getf (C := RX4) (T := TX4) (N := 6) rfl (by decide) inX4 kw152 dX4_kinds_33)) <|
  fa_c (ok_p (xg_load _ _ _) (x_iload_n dX4_kinds_36 rfl)) <|
  fa_c (ok_c pT_21 pY_21 (x_callV (n := 1) (C := RX1) (T := TX1) (N := 10) rfl rfl kw287 kw288 kw289 kw61 kw290 (by decide +kernel) dX4_kinds_37)) <|
  fa_c (ok_c pT_5 pY_5 (x_callV (n := 4) (C := RX0) (T := TX0) (N := 4) rfl rfl kw539 kw540 kw541 kw62 kw542 (by decide +kernel) dX4_kinds_40)) <|
  fa_c (ok_p (xg_if _ _ _) (x_if_eq dX4_kinds_43 (by decide))) <|
  fa_c (ok_p (xg_load _ _ _) (x_iload_n dX4_kinds_46 rfl)) <|
  fa_c (ok_p (xg_st _ _) (x_iconst dX4_kinds_47 rfl)) <|
  fa_c (ok_p (xg_load _ _ _) (x_iload_n dX4_kinds_48 rfl)) <|
  fa_c (ok_p (xg_st _ _) (x_ishl dX4_kinds_49)) <|
  fa_c (ok_p (xg_st _ _) (x_ior dX4_kinds_50)) <|
  fa_c (ok_p (xg_store _ _ _) (x_istore_n dX4_kinds_51 rfl)) <|
  fa_c (ok_p (xg_iinc _ _ _) (x_iinc dX4_kinds_52 rfl)) <|
  fa_c (ok_p (xg_st _ _) (x_goto dX4_kinds_55 (by decide))) <|
  fa_c (ok_p (xg_load _ _ _) (x_iload_n dX4_kinds_58 rfl)) <|
  fa_c (ok_r ⟨rfl, dX4_kinds_59⟩) <|
  fa_n
theorem dX4_odds_0 : decode cX4_odds 0 = .ok (.aload_n 0, 1) := by decide +kernel
theorem dX4_odds_1 : decode cX4_odds 1 = .ok (.getfield 21, 3) := by decide +kernel
theorem dX4_odds_4 : decode cX4_odds 4 = .ok (.iload_n 1, 1) := by decide +kernel
theorem dX4_odds_5 : decode cX4_odds 5 = .ok (.invokevirtual 74, 3) := by decide +kernel
theorem dX4_odds_8 : decode cX4_odds 8 = .ok (.ifCond .ne 7, 3) := by decide +kernel
theorem dX4_odds_11 : decode cX4_odds 11 = .ok (.ldc2_w 126, 3) := by decide +kernel
theorem dX4_odds_14 : decode cX4_odds 14 = .ok (.lreturn, 1) := by decide +kernel
theorem dX4_odds_15 : decode cX4_odds 15 = .ok (.iload_n 2, 1) := by decide +kernel
theorem dX4_odds_16 : decode cX4_odds 16 = .ok (.iconst 0, 1) := by decide +kernel
theorem dX4_odds_17 : decode cX4_odds 17 = .ok (.bipush 20, 2) := by decide +kernel
theorem dX4_odds_19 : decode cX4_odds 19 = .ok (.invokestatic 141, 3) := by decide +kernel
theorem dX4_odds_22 : decode cX4_odds 22 = .ok (.ifCond .eq 12, 3) := by decide +kernel
theorem dX4_odds_25 : decode cX4_odds 25 = .ok (.iload_n 3, 1) := by decide +kernel
theorem dX4_odds_26 : decode cX4_odds 26 = .ok (.iconst 0, 1) := by decide +kernel
theorem dX4_odds_27 : decode cX4_odds 27 = .ok (.iconst 1, 1) := by decide +kernel
theorem dX4_odds_28 : decode cX4_odds 28 = .ok (.invokestatic 141, 3) := by decide +kernel
theorem dX4_odds_31 : decode cX4_odds 31 = .ok (.ifCond .ne 7, 3) := by decide +kernel
theorem dX4_odds_34 : decode cX4_odds 34 = .ok (.ldc2_w 126, 3) := by decide +kernel
theorem dX4_odds_37 : decode cX4_odds 37 = .ok (.lreturn, 1) := by decide +kernel
theorem dX4_odds_38 : decode cX4_odds 38 = .ok (.aload_n 0, 1) := by decide +kernel
theorem dX4_odds_39 : decode cX4_odds 39 = .ok (.getfield 21, 3) := by decide +kernel
theorem dX4_odds_42 : decode cX4_odds 42 = .ok (.iload_n 1, 1) := by decide +kernel
theorem dX4_odds_43 : decode cX4_odds 43 = .ok (.iload_n 2, 1) := by decide +kernel
theorem dX4_odds_44 : decode cX4_odds 44 = .ok (.invokevirtual 183, 3) := by decide +kernel
theorem dX4_odds_47 : decode cX4_odds 47 = .ok (.istore 4, 2) := by decide +kernel
theorem dX4_odds_49 : decode cX4_odds 49 = .ok (.aload_n 0, 1) := by decide +kernel
theorem dX4_odds_50 : decode cX4_odds 50 = .ok (.getfield 21, 3) := by decide +kernel
theorem dX4_odds_53 : decode cX4_odds 53 = .ok (.invokevirtual 186, 3) := by decide +kernel
theorem dX4_odds_56 : decode cX4_odds 56 = .ok (.istore 5, 2) := by decide +kernel
theorem dX4_odds_58 : decode cX4_odds 58 = .ok (.iload 4, 2) := by decide +kernel
theorem dX4_odds_60 : decode cX4_odds 60 = .ok (.iload 5, 2) := by decide +kernel
theorem dX4_odds_62 : decode cX4_odds 62 = .ok (.invokestatic 189, 3) := by decide +kernel
theorem dX4_odds_65 : decode cX4_odds 65 = .ok (.istore 6, 2) := by decide +kernel
theorem dX4_odds_67 : decode cX4_odds 67 = .ok (.iload 6, 2) := by decide +kernel
theorem dX4_odds_69 : decode cX4_odds 69 = .ok (.ifCond .ne 7, 3) := by decide +kernel
theorem dX4_odds_72 : decode cX4_odds 72 = .ok (.ldc2_w 126, 3) := by decide +kernel
theorem dX4_odds_75 : decode cX4_odds 75 = .ok (.lreturn, 1) := by decide +kernel
theorem dX4_odds_76 : decode cX4_odds 76 = .ok (.iload_n 3, 1) := by decide +kernel
theorem dX4_odds_77 : decode cX4_odds 77 = .ok (.ifCond .ne 12, 3) := by decide +kernel
theorem dX4_odds_80 : decode cX4_odds 80 = .ok (.iload 4, 2) := by decide +kernel
theorem dX4_odds_82 : decode cX4_odds 82 = .ok (.iload 6, 2) := by decide +kernel
theorem dX4_odds_84 : decode cX4_odds 84 = .ok (.idiv, 1) := by decide +kernel
theorem dX4_odds_85 : decode cX4_odds 85 = .ok (.i2l, 1) := by decide +kernel
theorem dX4_odds_86 : decode cX4_odds 86 = .ok (.goto 9, 3) := by decide +kernel
theorem dX4_odds_89 : decode cX4_odds 89 = .ok (.iload 5, 2) := by decide +kernel
theorem dX4_odds_91 : decode cX4_odds 91 = .ok (.iload 6, 2) := by decide +kernel
theorem dX4_odds_93 : decode cX4_odds 93 = .ok (.idiv, 1) := by decide +kernel
theorem dX4_odds_94 : decode cX4_odds 94 = .ok (.i2l, 1) := by decide +kernel
theorem dX4_odds_95 : decode cX4_odds 95 = .ok (.lreturn, 1) := by decide +kernel
set_option maxRecDepth 20000 in
theorem tkX4_odds : ∀ q ∈ tbX4_odds, xOk (Zm false yX4_odds.name) RX4 cX4_odds 7 (some .long) pT pY q :=
  fa_c (ok_p (xg_load _ _ _) (x_aload_n dX4_odds_0 rfl)) <|
  fa_c (ok_p (xg_getf _ _ _) (x_getf (C := RX4) (T := TX4) (N := 6) rfl (by decide) inX4 kw152 dX4_odds_1)) <|
  fa_c (ok_p (xg_load _ _ _) (x_iload_n dX4_odds_4 rfl)) <|
  fa_c (ok_c pT_17 pY_17 (x_callV (n := 1) (C := RX1) (T := TX1) (N := 10) rfl rfl kw279 kw280 kw281 kw61 kw282 (by decide +kernel) dX4_odds_5)) <|
  fa_c (ok_p (xg_if _ _ _) (x_if_ne dX4_odds_8 (by decide))) <|
  fa_c (ok_p (xg_st _ _) (x_ldc2 dX4_odds_11 kw375)) <|
  fa_c (ok_r ⟨rfl, dX4_odds_14⟩) <|
  fa_c (ok_p (xg_load _ _ _) (x_iload_n dX4_odds_15 rfl)) <|
  fa_c (ok_p (xg_st _ _) (x_iconst dX4_odds_16 rfl)) <|
  fa_c (ok_p (xg_st _ _) (x_bipush dX4_odds_17 rfl)) <|
  fa_c (ok_c pT_114 pY_114 (x_callS (n := 3) rfl kw181 kw182 kw59 kw183 (by decide +kernel) dX4_odds_19)) <|
  fa_c (ok_p (xg_if _ _ _) (x_if_eq dX4_odds_22 (by decide))) <|
  fa_c (ok_p (xg_load _ _ _) (x_iload_n dX4_odds_25 rfl)) <|
  fa_c (ok_p (xg_st _ _) (x_iconst dX4_odds_26 rfl)) <|
  fa_c (ok_p (xg_st _ _) (x_iconst dX4_odds_27 rfl)) <|
  fa_c (ok_c pT_114 pY_114 (x_callS (n := 3) rfl kw181 kw182 kw59 kw183 (by decide +kernel) dX4_odds_28)) <|
  fa_c (ok_p (xg_if _ _ _) (x_if_ne dX4_odds_31 (by decide))) <|
  fa_c (ok_p (xg_st _ _) (x_ldc2 dX4_odds_34 kw375)) <|
  fa_c (ok_r ⟨rfl, dX4_odds_37⟩) <|
  fa_c (ok_p (xg_load _ _ _) (x_aload_n dX4_odds_38 rfl)) <|
  fa_c (ok_p (xg_getf _ _ _) (x_getf (C := RX4) (T := TX4) (N := 6) rfl (by decide) inX4 kw152 dX4_odds_39)) <|
  fa_c (ok_p (xg_load _ _ _) (x_iload_n dX4_odds_42 rfl)) <|
  fa_c (ok_p (xg_load _ _ _) (x_iload_n dX4_odds_43 rfl)) <|
  fa_c (ok_c pT_52 pY_52 (x_callV (n := 2) (C := RX1) (T := TX1) (N := 10) rfl rfl kw555 kw556 kw557 kw61 kw558 (by decide +kernel) dX4_odds_44)) <|
  fa_c (ok_p (xg_store _ _ _) (x_istore dX4_odds_47)) <|
  fa_c (ok_p (xg_load _ _ _) (x_aload_n dX4_odds_49 rfl)) <|
  fa_c (ok_p (xg_getf _ _ _) (x_getf (C := RX4) (T := TX4) (N := 6) rfl (by decide) inX4 kw152 dX4_odds_50)) <|
  fa_c (ok_c pT_51 pY_51 (x_callV (n := 0) (C := RX1) (T := TX1) (N := 10) rfl rfl kw559 kw560 kw561 kw61 kw562 (by decide +kernel) dX4_odds_53)) <|
  fa_c (ok_p (xg_store _ _ _) (x_istore dX4_odds_56)) <|
  fa_c (ok_p (xg_load _ _ _) (x_iload dX4_odds_58)) <|
  fa_c (ok_p (xg_load _ _ _) (x_iload dX4_odds_60)) <|
  fa_c (ok_c pT_118 pY_118 (x_callS (n := 2) rfl kw563 kw564 kw59 kw565 (by decide +kernel) dX4_odds_62)) <|
  fa_c (ok_p (xg_store _ _ _) (x_istore dX4_odds_65)) <|
  fa_c (ok_p (xg_load _ _ _) (x_iload dX4_odds_67)) <|
  fa_c (ok_p (xg_if _ _ _) (x_if_ne dX4_odds_69 (by decide))) <|
  fa_c (ok_p (xg_st _ _) (x_ldc2 dX4_odds_72 kw375)) <|
  fa_c (ok_r ⟨rfl, dX4_odds_75⟩) <|
  fa_c (ok_p (xg_load _ _ _) (x_iload_n dX4_odds_76 rfl)) <|
  fa_c (ok_p (xg_if _ _ _) (x_if_ne dX4_odds_77 (by decide))) <|
  fa_c (ok_p (xg_load _ _ _) (x_iload dX4_odds_80)) <|
  fa_c (ok_p (xg_load _ _ _) (x_iload dX4_odds_82)) <|
  fa_c (ok_p (xg_st _ _) (x_idiv dX4_odds_84)) <|
  fa_c (ok_p (xg_st _ _) (x_i2l dX4_odds_85)) <|
  fa_c (ok_p (xg_st _ _) (x_goto dX4_odds_86 (by decide))) <|
  fa_c (ok_p (xg_load _ _ _) (x_iload dX4_odds_89)) <|
  fa_c (ok_p (xg_load _ _ _) (x_iload dX4_odds_91)) <|
  fa_c (ok_p (xg_st _ _) (x_idiv dX4_odds_93)) <|
  fa_c (ok_p (xg_st _ _) (x_i2l dX4_odds_94)) <|
  fa_c (ok_r ⟨rfl, dX4_odds_95⟩) <|
  fa_n
theorem dX4_sheet_0 : decode cX4_sheet 0 = .ok (.aload_n 0, 1) := by decide +kernel
theorem dX4_sheet_1 : decode cX4_sheet 1 = .ok (.iconst 0, 1) := by decide +kernel
theorem dX4_sheet_2 : decode cX4_sheet 2 = .ok (.putfield 36, 3) := by decide +kernel
theorem dX4_sheet_5 : decode cX4_sheet 5 = .ok (.aload_n 0, 1) := by decide +kernel
theorem dX4_sheet_6 : decode cX4_sheet 6 = .ok (.iload_n 1, 1) := by decide +kernel
theorem dX4_sheet_7 : decode cX4_sheet 7 = .ok (.invokevirtual 40, 3) := by decide +kernel
theorem dX4_sheet_10 : decode cX4_sheet 10 = .ok (.astore 4, 2) := by decide +kernel
theorem dX4_sheet_12 : decode cX4_sheet 12 = .ok (.aload 4, 2) := by decide +kernel
theorem dX4_sheet_14 : decode cX4_sheet 14 = .ok (.ifnonnull 5, 3) := by decide +kernel
theorem dX4_sheet_17 : decode cX4_sheet 17 = .ok (.iconst (-1), 1) := by decide +kernel
theorem dX4_sheet_18 : decode cX4_sheet 18 = .ok (.ireturn, 1) := by decide +kernel
theorem dX4_sheet_19 : decode cX4_sheet 19 = .ok (.iload_n 2, 1) := by decide +kernel
theorem dX4_sheet_20 : decode cX4_sheet 20 = .ok (.invokestatic 44, 3) := by decide +kernel
theorem dX4_sheet_23 : decode cX4_sheet 23 = .ok (.ifCond .eq 9, 3) := by decide +kernel
theorem dX4_sheet_26 : decode cX4_sheet 26 = .ok (.iload_n 3, 1) := by decide +kernel
theorem dX4_sheet_27 : decode cX4_sheet 27 = .ok (.bipush 60, 2) := by decide +kernel
theorem dX4_sheet_29 : decode cX4_sheet 29 = .ok (.if_icmp .le 6, 3) := by decide +kernel
theorem dX4_sheet_32 : decode cX4_sheet 32 = .ok (.bipush (-2), 2) := by decide +kernel
theorem dX4_sheet_34 : decode cX4_sheet 34 = .ok (.ireturn, 1) := by decide +kernel
theorem dX4_sheet_35 : decode cX4_sheet 35 = .ok (.iload_n 3, 1) := by decide +kernel
theorem dX4_sheet_36 : decode cX4_sheet 36 = .ok (.ifCond .ge 9, 3) := by decide +kernel
theorem dX4_sheet_39 : decode cX4_sheet 39 = .ok (.aload_n 0, 1) := by decide +kernel
theorem dX4_sheet_40 : decode cX4_sheet 40 = .ok (.iconst 4, 1) := by decide +kernel
theorem dX4_sheet_41 : decode cX4_sheet 41 = .ok (.invokevirtual 52, 3) := by decide +kernel
theorem dX4_sheet_44 : decode cX4_sheet 44 = .ok (.ireturn, 1) := by decide +kernel
theorem dX4_sheet_45 : decode cX4_sheet 45 = .ok (.aload 4, 2) := by decide +kernel
theorem dX4_sheet_47 : decode cX4_sheet 47 = .ok (.iload_n 2, 1) := by decide +kernel
theorem dX4_sheet_48 : decode cX4_sheet 48 = .ok (.iload_n 3, 1) := by decide +kernel
theorem dX4_sheet_49 : decode cX4_sheet 49 = .ok (.invokevirtual 192, 3) := by decide +kernel
theorem dX4_sheet_52 : decode cX4_sheet 52 = .ok (.iconst 1, 1) := by decide +kernel
theorem dX4_sheet_53 : decode cX4_sheet 53 = .ok (.ireturn, 1) := by decide +kernel
set_option maxRecDepth 20000 in
theorem tkX4_sheet : ∀ q ∈ tbX4_sheet, xOk (Zm false yX4_sheet.name) RX4 cX4_sheet 5 (some .int) pT pY q :=
  fa_c (ok_p (xg_load _ _ _) (x_aload_n dX4_sheet_0 rfl)) <|
  fa_c (ok_p (xg_st _ _) (x_iconst dX4_sheet_1 rfl)) <|
  fa_c (ok_p (xg_putf _ _ _ _) (x_putfof (C := RX4) (T := TX4) (N := 6) tyX4 tyX4_ok nmX4 rfl (by decide) inX4 kw156 dX4_sheet_2 (tyX4_ok 5 (by decide)) (fun _ _ _ _ _ _ => Or.inl rfl))) <|
  fa_c (ok_p (xg_load _ _ _) (x_aload_n dX4_sheet_5 rfl)) <|
  fa_c (ok_p (xg_load _ _ _) (x_iload_n dX4_sheet_6 rfl)) <|
  fa_c (ok_c pT_102 pY_102 (x_callV (n := 1) (C := RX4) (T := TX4) (N := 6) rfl rfl kw174 kw176 kw0 kw59 kw177 (by decide +kernel) dX4_sheet_7)) <|
  fa_c (ok_p (xg_store _ _ _) (x_astore dX4_sheet_10)) <|
  fa_c (ok_p (xg_load _ _ _) (x_aload dX4_sheet_12)) <|
  fa_c (ok_p (xg_null _ _) (x_ifnonnull dX4_sheet_14 (by decide))) <|
  fa_c (ok_p (xg_st _ _) (x_iconst dX4_sheet_17 rfl)) <|
  fa_c (ok_r ⟨rfl, dX4_sheet_18⟩) <|
  fa_c (ok_p (xg_load _ _ _) (x_iload_n dX4_sheet_19 rfl)) <|
  fa_c (ok_c pT_115 pY_115 (x_callS (n := 1) rfl kw178 kw179 kw59 kw180 (by decide +kernel) dX4_sheet_20)) <|
  fa_c (ok_p (xg_if _ _ _) (x_if_eq dX4_sheet_23 (by decide))) <|
  fa_c (ok_p (xg_load _ _ _) (x_iload_n dX4_sheet_26 rfl)) <|
  fa_c (ok_p (xg_st _ _) (x_bipush dX4_sheet_27 rfl)) <|
  fa_c (ok_p (xg_icmp _ _ _) (x_icmp_le dX4_sheet_29 (by decide))) <|
  fa_c (ok_p (xg_st _ _) (x_bipush dX4_sheet_32 rfl)) <|
  fa_c (ok_r ⟨rfl, dX4_sheet_34⟩) <|
  fa_c (ok_p (xg_load _ _ _) (x_iload_n dX4_sheet_35 rfl)) <|
  fa_c (ok_p (xg_if _ _ _) (x_if_ge dX4_sheet_36 (by decide))) <|
  fa_c (ok_p (xg_load _ _ _) (x_aload_n dX4_sheet_39 rfl)) <|
  fa_c (ok_p (xg_st _ _) (x_iconst dX4_sheet_40 rfl)) <|
  fa_c (ok_c pT_103 pY_103 (x_callV (n := 1) (C := RX4) (T := TX4) (N := 6) rfl rfl kw213 kw215 kw2 kw59 kw216 (by decide +kernel) dX4_sheet_41)) <|
  fa_c (ok_r ⟨rfl, dX4_sheet_44⟩) <|
  fa_c (ok_p (xg_load _ _ _) (x_aload dX4_sheet_45)) <|
  fa_c (ok_p (xg_load _ _ _) (x_iload_n dX4_sheet_47 rfl)) <|
  fa_c (ok_p (xg_load _ _ _) (x_iload_n dX4_sheet_48 rfl)) <|
  fa_c (ok_c pT_65 pY_65 (x_callV (n := 2) (C := RX3) (T := TX3) (N := 3) rfl rfl kw570 kw571 kw572 kw60 kw573 (by decide +kernel) dX4_sheet_49)) <|
  fa_c (ok_p (xg_st _ _) (x_iconst dX4_sheet_52 rfl)) <|
  fa_c (ok_r ⟨rfl, dX4_sheet_53⟩) <|
  fa_n
theorem dX4_lose_0 : decode cX4_lose 0 = .ok (.aload_n 0, 1) := by decide +kernel
theorem dX4_lose_1 : decode cX4_lose 1 = .ok (.iload_n 1, 1) := by decide +kernel
theorem dX4_lose_2 : decode cX4_lose 2 = .ok (.invokevirtual 40, 3) := by decide +kernel
theorem dX4_lose_5 : decode cX4_lose 5 = .ok (.astore_n 2, 1) := by decide +kernel
theorem dX4_lose_6 : decode cX4_lose 6 = .ok (.aload_n 2, 1) := by decide +kernel
theorem dX4_lose_7 : decode cX4_lose 7 = .ok (.ifnonnull 5, 3) := by decide +kernel
theorem dX4_lose_10 : decode cX4_lose 10 = .ok (.iconst (-1), 1) := by decide +kernel
theorem dX4_lose_11 : decode cX4_lose 11 = .ok (.ireturn, 1) := by decide +kernel
theorem dX4_lose_12 : decode cX4_lose 12 = .ok (.aload_n 2, 1) := by decide +kernel
theorem dX4_lose_13 : decode cX4_lose 13 = .ok (.invokevirtual 195, 3) := by decide +kernel
theorem dX4_lose_16 : decode cX4_lose 16 = .ok (.ifCond .eq 5, 3) := by decide +kernel
theorem dX4_lose_19 : decode cX4_lose 19 = .ok (.iconst 0, 1) := by decide +kernel
theorem dX4_lose_20 : decode cX4_lose 20 = .ok (.ireturn, 1) := by decide +kernel
theorem dX4_lose_21 : decode cX4_lose 21 = .ok (.aload_n 2, 1) := by decide +kernel
theorem dX4_lose_22 : decode cX4_lose 22 = .ok (.invokevirtual 198, 3) := by decide +kernel
theorem dX4_lose_25 : decode cX4_lose 25 = .ok (.iconst 1, 1) := by decide +kernel
theorem dX4_lose_26 : decode cX4_lose 26 = .ok (.ireturn, 1) := by decide +kernel
set_option maxRecDepth 20000 in
theorem tkX4_lose : ∀ q ∈ tbX4_lose, xOk (Zm false yX4_lose.name) RX4 cX4_lose 3 (some .int) pT pY q :=
  fa_c (ok_p (xg_load _ _ _) (x_aload_n dX4_lose_0 rfl)) <|
  fa_c (ok_p (xg_load _ _ _) (x_iload_n dX4_lose_1 rfl)) <|
  fa_c (ok_c pT_102 pY_102 (x_callV (n := 1) (C := RX4) (T := TX4) (N := 6) rfl rfl kw174 kw176 kw0 kw59 kw177 (by decide +kernel) dX4_lose_2)) <|
  fa_c (ok_p (xg_store _ _ _) (x_astore_n dX4_lose_5 rfl)) <|
  fa_c (ok_p (xg_load _ _ _) (x_aload_n dX4_lose_6 rfl)) <|
  fa_c (ok_p (xg_null _ _) (x_ifnonnull dX4_lose_7 (by decide))) <|
  fa_c (ok_p (xg_st _ _) (x_iconst dX4_lose_10 rfl)) <|
  fa_c (ok_r ⟨rfl, dX4_lose_11⟩) <|
  fa_c (ok_p (xg_load _ _ _) (x_aload_n dX4_lose_12 rfl)) <|
  fa_c (ok_c pT_61 pY_61 (x_callV (n := 0) (C := RX3) (T := TX3) (N := 3) rfl rfl kw581 kw193 kw194 kw60 kw195 (by decide +kernel) dX4_lose_13)) <|
  fa_c (ok_p (xg_if _ _ _) (x_if_eq dX4_lose_16 (by decide))) <|
  fa_c (ok_p (xg_st _ _) (x_iconst dX4_lose_19 rfl)) <|
  fa_c (ok_r ⟨rfl, dX4_lose_20⟩) <|
  fa_c (ok_p (xg_load _ _ _) (x_aload_n dX4_lose_21 rfl)) <|
  fa_c (ok_c pT_66 pY_66 (x_callV (n := 0) (C := RX3) (T := TX3) (N := 3) rfl rfl kw582 kw583 kw584 kw60 kw585 (by decide +kernel) dX4_lose_22)) <|
  fa_c (ok_p (xg_st _ _) (x_iconst dX4_lose_25 rfl)) <|
  fa_c (ok_r ⟨rfl, dX4_lose_26⟩) <|
  fa_n
theorem dX4_put_0 : decode cX4_put 0 = .ok (.aload_n 0, 1) := by decide +kernel
theorem dX4_put_1 : decode cX4_put 1 = .ok (.iconst 0, 1) := by decide +kernel
theorem dX4_put_2 : decode cX4_put 2 = .ok (.putfield 36, 3) := by decide +kernel
theorem dX4_put_5 : decode cX4_put 5 = .ok (.aload_n 0, 1) := by decide +kernel
theorem dX4_put_6 : decode cX4_put 6 = .ok (.iload_n 1, 1) := by decide +kernel
theorem dX4_put_7 : decode cX4_put 7 = .ok (.invokevirtual 40, 3) := by decide +kernel
theorem dX4_put_10 : decode cX4_put 10 = .ok (.astore 4, 2) := by decide +kernel
theorem dX4_put_12 : decode cX4_put 12 = .ok (.aload 4, 2) := by decide +kernel
theorem dX4_put_14 : decode cX4_put 14 = .ok (.ifnonnull 5, 3) := by decide +kernel
theorem dX4_put_17 : decode cX4_put 17 = .ok (.iconst (-1), 1) := by decide +kernel
theorem dX4_put_18 : decode cX4_put 18 = .ok (.ireturn, 1) := by decide +kernel
theorem dX4_put_19 : decode cX4_put 19 = .ok (.aload 4, 2) := by decide +kernel
theorem dX4_put_21 : decode cX4_put 21 = .ok (.invokevirtual 195, 3) := by decide +kernel
theorem dX4_put_24 : decode cX4_put 24 = .ok (.ifCond .eq 9, 3) := by decide +kernel
theorem dX4_put_27 : decode cX4_put 27 = .ok (.aload_n 0, 1) := by decide +kernel
theorem dX4_put_28 : decode cX4_put 28 = .ok (.iconst 1, 1) := by decide +kernel
theorem dX4_put_29 : decode cX4_put 29 = .ok (.invokevirtual 52, 3) := by decide +kernel
theorem dX4_put_32 : decode cX4_put 32 = .ok (.ireturn, 1) := by decide +kernel
theorem dX4_put_33 : decode cX4_put 33 = .ok (.aload 4, 2) := by decide +kernel
theorem dX4_put_35 : decode cX4_put 35 = .ok (.iload_n 2, 1) := by decide +kernel
theorem dX4_put_36 : decode cX4_put 36 = .ok (.iconst 1, 1) := by decide +kernel
theorem dX4_put_37 : decode cX4_put 37 = .ok (.invokevirtual 201, 3) := by decide +kernel
theorem dX4_put_40 : decode cX4_put 40 = .ok (.ifCond .ne 9, 3) := by decide +kernel
theorem dX4_put_43 : decode cX4_put 43 = .ok (.aload_n 0, 1) := by decide +kernel
theorem dX4_put_44 : decode cX4_put 44 = .ok (.iconst 3, 1) := by decide +kernel
theorem dX4_put_45 : decode cX4_put 45 = .ok (.invokevirtual 52, 3) := by decide +kernel
theorem dX4_put_48 : decode cX4_put 48 = .ok (.ireturn, 1) := by decide +kernel
theorem dX4_put_49 : decode cX4_put 49 = .ok (.aload 4, 2) := by decide +kernel
theorem dX4_put_51 : decode cX4_put 51 = .ok (.iload_n 2, 1) := by decide +kernel
theorem dX4_put_52 : decode cX4_put 52 = .ok (.iload_n 3, 1) := by decide +kernel
theorem dX4_put_53 : decode cX4_put 53 = .ok (.invokevirtual 205, 3) := by decide +kernel
theorem dX4_put_56 : decode cX4_put 56 = .ok (.iconst 1, 1) := by decide +kernel
theorem dX4_put_57 : decode cX4_put 57 = .ok (.ireturn, 1) := by decide +kernel
set_option maxRecDepth 20000 in
theorem tkX4_put : ∀ q ∈ tbX4_put, xOk (Zm false yX4_put.name) RX4 cX4_put 5 (some .int) pT pY q :=
  fa_c (ok_p (xg_load _ _ _) (x_aload_n dX4_put_0 rfl)) <|
  fa_c (ok_p (xg_st _ _) (x_iconst dX4_put_1 rfl)) <|
  fa_c (ok_p (xg_putf _ _ _ _) (x_putfof (C := RX4) (T := TX4) (N := 6) tyX4 tyX4_ok nmX4 rfl (by decide) inX4 kw156 dX4_put_2 (tyX4_ok 5 (by decide)) (fun _ _ _ _ _ _ => Or.inl rfl))) <|
  fa_c (ok_p (xg_load _ _ _) (x_aload_n dX4_put_5 rfl)) <|
  fa_c (ok_p (xg_load _ _ _) (x_iload_n dX4_put_6 rfl)) <|
  fa_c (ok_c pT_102 pY_102 (x_callV (n := 1) (C := RX4) (T := TX4) (N := 6) rfl rfl kw174 kw176 kw0 kw59 kw177 (by decide +kernel) dX4_put_7)) <|
  fa_c (ok_p (xg_store _ _ _) (x_astore dX4_put_10)) <|
  fa_c (ok_p (xg_load _ _ _) (x_aload dX4_put_12)) <|
  fa_c (ok_p (xg_null _ _) (x_ifnonnull dX4_put_14 (by decide))) <|
  fa_c (ok_p (xg_st _ _) (x_iconst dX4_put_17 rfl)) <|
  fa_c (ok_r ⟨rfl, dX4_put_18⟩) <|
  fa_c (ok_p (xg_load _ _ _) (x_aload dX4_put_19)) <|
  fa_c (ok_c pT_61 pY_61 (x_callV (n := 0) (C := RX3) (T := TX3) (N := 3) rfl rfl kw581 kw193 kw194 kw60 kw195 (by decide +kernel) dX4_put_21)) <|
  fa_c (ok_p (xg_if _ _ _) (x_if_eq dX4_put_24 (by decide))) <|
  fa_c (ok_p (xg_load _ _ _) (x_aload_n dX4_put_27 rfl)) <|
  fa_c (ok_p (xg_st _ _) (x_iconst dX4_put_28 rfl)) <|
  fa_c (ok_c pT_103 pY_103 (x_callV (n := 1) (C := RX4) (T := TX4) (N := 6) rfl rfl kw213 kw215 kw2 kw59 kw216 (by decide +kernel) dX4_put_29)) <|
  fa_c (ok_r ⟨rfl, dX4_put_32⟩) <|
  fa_c (ok_p (xg_load _ _ _) (x_aload dX4_put_33)) <|
  fa_c (ok_p (xg_load _ _ _) (x_iload_n dX4_put_35 rfl)) <|
  fa_c (ok_p (xg_st _ _) (x_iconst dX4_put_36 rfl)) <|
  fa_c (ok_c pT_63 pY_63 (x_callV (n := 2) (C := RX3) (T := TX3) (N := 3) rfl rfl kw590 kw197 kw198 kw60 kw199 (by decide +kernel) dX4_put_37)) <|
  fa_c (ok_p (xg_if _ _ _) (x_if_ne dX4_put_40 (by decide))) <|
  fa_c (ok_p (xg_load _ _ _) (x_aload_n dX4_put_43 rfl)) <|
  fa_c (ok_p (xg_st _ _) (x_iconst dX4_put_44 rfl)) <|
  fa_c (ok_c pT_103 pY_103 (x_callV (n := 1) (C := RX4) (T := TX4) (N := 6) rfl rfl kw213 kw215 kw2 kw59 kw216 (by decide +kernel) dX4_put_45)) <|
  fa_c (ok_r ⟨rfl, dX4_put_48⟩) <|
  fa_c (ok_p (xg_load _ _ _) (x_aload dX4_put_49)) <|
  fa_c (ok_p (xg_load _ _ _) (x_iload_n dX4_put_51 rfl)) <|
  fa_c (ok_p (xg_load _ _ _) (x_iload_n dX4_put_52 rfl)) <|
  fa_c (ok_c pT_68 pY_68 (x_callV (n := 2) (C := RX3) (T := TX3) (N := 3) rfl rfl kw591 kw592 kw593 kw60 kw594 (by decide +kernel) dX4_put_53)) <|
  fa_c (ok_p (xg_st _ _) (x_iconst dX4_put_56 rfl)) <|
  fa_c (ok_r ⟨rfl, dX4_put_57⟩) <|
  fa_n
theorem dX4_cell_0 : decode cX4_cell 0 = .ok (.aload_n 0, 1) := by decide +kernel
theorem dX4_cell_1 : decode cX4_cell 1 = .ok (.iconst 0, 1) := by decide +kernel
theorem dX4_cell_2 : decode cX4_cell 2 = .ok (.putfield 36, 3) := by decide +kernel
theorem dX4_cell_5 : decode cX4_cell 5 = .ok (.aload_n 0, 1) := by decide +kernel
theorem dX4_cell_6 : decode cX4_cell 6 = .ok (.iload_n 1, 1) := by decide +kernel
theorem dX4_cell_7 : decode cX4_cell 7 = .ok (.invokevirtual 40, 3) := by decide +kernel
theorem dX4_cell_10 : decode cX4_cell 10 = .ok (.astore 4, 2) := by decide +kernel
theorem dX4_cell_12 : decode cX4_cell 12 = .ok (.aload 4, 2) := by decide +kernel
theorem dX4_cell_14 : decode cX4_cell 14 = .ok (.ifnull 10, 3) := by decide +kernel
theorem dX4_cell_17 : decode cX4_cell 17 = .ok (.iload_n 3, 1) := by decide +kernel
theorem dX4_cell_18 : decode cX4_cell 18 = .ok (.invokestatic 44, 3) := by decide +kernel
theorem dX4_cell_21 : decode cX4_cell 21 = .ok (.ifCond .ne 7, 3) := by decide +kernel
theorem dX4_cell_24 : decode cX4_cell 24 = .ok (.ldc2_w 126, 3) := by decide +kernel
theorem dX4_cell_27 : decode cX4_cell 27 = .ok (.lreturn, 1) := by decide +kernel
theorem dX4_cell_28 : decode cX4_cell 28 = .ok (.aload_n 0, 1) := by decide +kernel
theorem dX4_cell_29 : decode cX4_cell 29 = .ok (.aload 4, 2) := by decide +kernel
theorem dX4_cell_31 : decode cX4_cell 31 = .ok (.iload_n 3, 1) := by decide +kernel
theorem dX4_cell_32 : decode cX4_cell 32 = .ok (.iload_n 2, 1) := by decide +kernel
theorem dX4_cell_33 : decode cX4_cell 33 = .ok (.iconst 1, 1) := by decide +kernel
theorem dX4_cell_34 : decode cX4_cell 34 = .ok (.invokevirtual 208, 3) := by decide +kernel
theorem dX4_cell_37 : decode cX4_cell 37 = .ok (.putfield 36, 3) := by decide +kernel
theorem dX4_cell_40 : decode cX4_cell 40 = .ok (.aload_n 0, 1) := by decide +kernel
theorem dX4_cell_41 : decode cX4_cell 41 = .ok (.getfield 36, 3) := by decide +kernel
theorem dX4_cell_44 : decode cX4_cell 44 = .ok (.ifCond .ne 13, 3) := by decide +kernel
theorem dX4_cell_47 : decode cX4_cell 47 = .ok (.aload 4, 2) := by decide +kernel
theorem dX4_cell_49 : decode cX4_cell 49 = .ok (.iload_n 2, 1) := by decide +kernel
theorem dX4_cell_50 : decode cX4_cell 50 = .ok (.invokevirtual 211, 3) := by decide +kernel
theorem dX4_cell_53 : decode cX4_cell 53 = .ok (.i2l, 1) := by decide +kernel
theorem dX4_cell_54 : decode cX4_cell 54 = .ok (.goto 6, 3) := by decide +kernel
theorem dX4_cell_57 : decode cX4_cell 57 = .ok (.ldc2_w 126, 3) := by decide +kernel
theorem dX4_cell_60 : decode cX4_cell 60 = .ok (.lreturn, 1) := by decide +kernel
set_option maxRecDepth 20000 in
theorem tkX4_cell : ∀ q ∈ tbX4_cell, xOk (Zm false yX4_cell.name) RX4 cX4_cell 5 (some .long) pT pY q :=
  fa_c (ok_p (xg_load _ _ _) (x_aload_n dX4_cell_0 rfl)) <|
  fa_c (ok_p (xg_st _ _) (x_iconst dX4_cell_1 rfl)) <|
  fa_c (ok_p (xg_putf _ _ _ _) (x_putfof (C := RX4) (T := TX4) (N := 6) tyX4 tyX4_ok nmX4 rfl (by decide) inX4 kw156 dX4_cell_2 (tyX4_ok 5 (by decide)) (fun _ _ _ _ _ _ => Or.inl rfl))) <|
  fa_c (ok_p (xg_load _ _ _) (x_aload_n dX4_cell_5 rfl)) <|
  fa_c (ok_p (xg_load _ _ _) (x_iload_n dX4_cell_6 rfl)) <|
  fa_c (ok_c pT_102 pY_102 (x_callV (n := 1) (C := RX4) (T := TX4) (N := 6) rfl rfl kw174 kw176 kw0 kw59 kw177 (by decide +kernel) dX4_cell_7)) <|
  fa_c (ok_p (xg_store _ _ _) (x_astore dX4_cell_10)) <|
  fa_c (ok_p (xg_load _ _ _) (x_aload dX4_cell_12)) <|
  fa_c (ok_p (xg_null _ _) (x_ifnull dX4_cell_14 (by decide))) <|
  fa_c (ok_p (xg_load _ _ _) (x_iload_n dX4_cell_17 rfl)) <|
  fa_c (ok_c pT_115 pY_115 (x_callS (n := 1) rfl kw178 kw179 kw59 kw180 (by decide +kernel) dX4_cell_18)) <|
  fa_c (ok_p (xg_if _ _ _) (x_if_ne dX4_cell_21 (by decide))) <|
  fa_c (ok_p (xg_st _ _) (x_ldc2 dX4_cell_24 kw375)) <|
  fa_c (ok_r ⟨rfl, dX4_cell_27⟩) <|
  fa_c (ok_p (xg_load _ _ _) (x_aload_n dX4_cell_28 rfl)) <|
  fa_c (ok_p (xg_load _ _ _) (x_aload dX4_cell_29)) <|
  fa_c (ok_p (xg_load _ _ _) (x_iload_n dX4_cell_31 rfl)) <|
  fa_c (ok_p (xg_load _ _ _) (x_iload_n dX4_cell_32 rfl)) <|
  fa_c (ok_p (xg_st _ _) (x_iconst dX4_cell_33 rfl)) <|
  fa_c (ok_c pT_64 pY_64 (x_callV (n := 3) (C := RX3) (T := TX3) (N := 3) rfl rfl kw188 kw189 kw190 kw60 kw191 (by decide +kernel) dX4_cell_34)) <|
  fa_c (ok_p (xg_putf _ _ _ _) (x_putfof (C := RX4) (T := TX4) (N := 6) tyX4 tyX4_ok nmX4 rfl (by decide) inX4 kw156 dX4_cell_37 (tyX4_ok 5 (by decide)) (fun _ _ _ _ _ _ => Or.inl rfl))) <|
  fa_c (ok_p (xg_load _ _ _) (x_aload_n dX4_cell_40 rfl)) <|
  fa_c (ok_p (xg_getf _ _ _) (x_getf (C := RX4) (T := TX4) (N := 6) rfl (by decide) inX4 kw156 dX4_cell_41)) <|
  fa_c (ok_p (xg_if _ _ _) (x_if_ne dX4_cell_44 (by decide))) <|
  fa_c (ok_p (xg_load _ _ _) (x_aload dX4_cell_47)) <|
  fa_c (ok_p (xg_load _ _ _) (x_iload_n dX4_cell_49 rfl)) <|
  fa_c (ok_c pT_67 pY_67 (x_callV (n := 1) (C := RX3) (T := TX3) (N := 3) rfl rfl kw203 kw204 kw205 kw60 kw206 (by decide +kernel) dX4_cell_50)) <|
  fa_c (ok_p (xg_st _ _) (x_i2l dX4_cell_53)) <|
  fa_c (ok_p (xg_st _ _) (x_goto dX4_cell_54 (by decide))) <|
  fa_c (ok_p (xg_st _ _) (x_ldc2 dX4_cell_57 kw375)) <|
  fa_c (ok_r ⟨rfl, dX4_cell_60⟩) <|
  fa_n
theorem dX4_copy_0 : decode cX4_copy 0 = .ok (.aload_n 0, 1) := by decide +kernel
theorem dX4_copy_1 : decode cX4_copy 1 = .ok (.iconst 0, 1) := by decide +kernel
theorem dX4_copy_2 : decode cX4_copy 2 = .ok (.putfield 36, 3) := by decide +kernel
theorem dX4_copy_5 : decode cX4_copy 5 = .ok (.aload_n 0, 1) := by decide +kernel
theorem dX4_copy_6 : decode cX4_copy 6 = .ok (.iload_n 1, 1) := by decide +kernel
theorem dX4_copy_7 : decode cX4_copy 7 = .ok (.invokevirtual 40, 3) := by decide +kernel
theorem dX4_copy_10 : decode cX4_copy 10 = .ok (.astore 6, 2) := by decide +kernel
theorem dX4_copy_12 : decode cX4_copy 12 = .ok (.aload_n 0, 1) := by decide +kernel
theorem dX4_copy_13 : decode cX4_copy 13 = .ok (.iload_n 3, 1) := by decide +kernel
theorem dX4_copy_14 : decode cX4_copy 14 = .ok (.invokevirtual 40, 3) := by decide +kernel
theorem dX4_copy_17 : decode cX4_copy 17 = .ok (.astore 7, 2) := by decide +kernel
theorem dX4_copy_19 : decode cX4_copy 19 = .ok (.aload 6, 2) := by decide +kernel
theorem dX4_copy_21 : decode cX4_copy 21 = .ok (.ifnull 8, 3) := by decide +kernel
theorem dX4_copy_24 : decode cX4_copy 24 = .ok (.aload 7, 2) := by decide +kernel
theorem dX4_copy_26 : decode cX4_copy 26 = .ok (.ifnonnull 5, 3) := by decide +kernel
theorem dX4_copy_29 : decode cX4_copy 29 = .ok (.iconst (-1), 1) := by decide +kernel
theorem dX4_copy_30 : decode cX4_copy 30 = .ok (.ireturn, 1) := by decide +kernel
theorem dX4_copy_31 : decode cX4_copy 31 = .ok (.aload 6, 2) := by decide +kernel
theorem dX4_copy_33 : decode cX4_copy 33 = .ok (.invokevirtual 195, 3) := by decide +kernel
theorem dX4_copy_36 : decode cX4_copy 36 = .ok (.ifCond .ne 11, 3) := by decide +kernel
theorem dX4_copy_39 : decode cX4_copy 39 = .ok (.aload 7, 2) := by decide +kernel
theorem dX4_copy_41 : decode cX4_copy 41 = .ok (.invokevirtual 195, 3) := by decide +kernel
theorem dX4_copy_44 : decode cX4_copy 44 = .ok (.ifCond .eq 9, 3) := by decide +kernel
theorem dX4_copy_47 : decode cX4_copy 47 = .ok (.aload_n 0, 1) := by decide +kernel
theorem dX4_copy_48 : decode cX4_copy 48 = .ok (.iconst 1, 1) := by decide +kernel
theorem dX4_copy_49 : decode cX4_copy 49 = .ok (.invokevirtual 52, 3) := by decide +kernel
theorem dX4_copy_52 : decode cX4_copy 52 = .ok (.ireturn, 1) := by decide +kernel
theorem dX4_copy_53 : decode cX4_copy 53 = .ok (.aload 6, 2) := by decide +kernel
theorem dX4_copy_55 : decode cX4_copy 55 = .ok (.invokevirtual 214, 3) := by decide +kernel
theorem dX4_copy_58 : decode cX4_copy 58 = .ok (.aload 7, 2) := by decide +kernel
theorem dX4_copy_60 : decode cX4_copy 60 = .ok (.invokevirtual 214, 3) := by decide +kernel
theorem dX4_copy_63 : decode cX4_copy 63 = .ok (.if_icmp .eq 9, 3) := by decide +kernel
theorem dX4_copy_66 : decode cX4_copy 66 = .ok (.aload_n 0, 1) := by decide +kernel
theorem dX4_copy_67 : decode cX4_copy 67 = .ok (.iconst 2, 1) := by decide +kernel
theorem dX4_copy_68 : decode cX4_copy 68 = .ok (.invokevirtual 52, 3) := by decide +kernel
theorem dX4_copy_71 : decode cX4_copy 71 = .ok (.ireturn, 1) := by decide +kernel
theorem dX4_copy_72 : decode cX4_copy 72 = .ok (.aload 6, 2) := by decide +kernel
theorem dX4_copy_74 : decode cX4_copy 74 = .ok (.iload_n 2, 1) := by decide +kernel
theorem dX4_copy_75 : decode cX4_copy 75 = .ok (.iload 5, 2) := by decide +kernel
theorem dX4_copy_77 : decode cX4_copy 77 = .ok (.invokevirtual 201, 3) := by decide +kernel
theorem dX4_copy_80 : decode cX4_copy 80 = .ok (.ifCond .eq 15, 3) := by decide +kernel
theorem dX4_copy_83 : decode cX4_copy 83 = .ok (.aload 7, 2) := by decide +kernel
theorem dX4_copy_85 : decode cX4_copy 85 = .ok (.iload 4, 2) := by decide +kernel
theorem dX4_copy_87 : decode cX4_copy 87 = .ok (.iload 5, 2) := by decide +kernel
theorem dX4_copy_89 : decode cX4_copy 89 = .ok (.invokevirtual 201, 3) := by decide +kernel
theorem dX4_copy_92 : decode cX4_copy 92 = .ok (.ifCond .ne 9, 3) := by decide +kernel
theorem dX4_copy_95 : decode cX4_copy 95 = .ok (.aload_n 0, 1) := by decide +kernel
theorem dX4_copy_96 : decode cX4_copy 96 = .ok (.iconst 3, 1) := by decide +kernel
theorem dX4_copy_97 : decode cX4_copy 97 = .ok (.invokevirtual 52, 3) := by decide +kernel
theorem dX4_copy_100 : decode cX4_copy 100 = .ok (.ireturn, 1) := by decide +kernel
theorem dX4_copy_101 : decode cX4_copy 101 = .ok (.aload_n 0, 1) := by decide +kernel
theorem dX4_copy_102 : decode cX4_copy 102 = .ok (.getfield 32, 3) := by decide +kernel
theorem dX4_copy_105 : decode cX4_copy 105 = .ok (.aload 6, 2) := by decide +kernel
theorem dX4_copy_107 : decode cX4_copy 107 = .ok (.iload_n 2, 1) := by decide +kernel
theorem dX4_copy_108 : decode cX4_copy 108 = .ok (.iload 5, 2) := by decide +kernel
theorem dX4_copy_110 : decode cX4_copy 110 = .ok (.invokestatic 217, 3) := by decide +kernel
theorem dX4_copy_113 : decode cX4_copy 113 = .ok (.iconst 0, 1) := by decide +kernel
theorem dX4_copy_114 : decode cX4_copy 114 = .ok (.istore 8, 2) := by decide +kernel
theorem dX4_copy_116 : decode cX4_copy 116 = .ok (.iload 8, 2) := by decide +kernel
theorem dX4_copy_118 : decode cX4_copy 118 = .ok (.iload 5, 2) := by decide +kernel
theorem dX4_copy_120 : decode cX4_copy 120 = .ok (.if_icmp .ge 28, 3) := by decide +kernel
theorem dX4_copy_123 : decode cX4_copy 123 = .ok (.aload 7, 2) := by decide +kernel
theorem dX4_copy_125 : decode cX4_copy 125 = .ok (.iload 4, 2) := by decide +kernel
theorem dX4_copy_127 : decode cX4_copy 127 = .ok (.iload 8, 2) := by decide +kernel
theorem dX4_copy_129 : decode cX4_copy 129 = .ok (.iadd, 1) := by decide +kernel
theorem dX4_copy_130 : decode cX4_copy 130 = .ok (.aload_n 0, 1) := by decide +kernel
theorem dX4_copy_131 : decode cX4_copy 131 = .ok (.getfield 32, 3) := by decide +kernel
theorem dX4_copy_134 : decode cX4_copy 134 = .ok (.iload 8, 2) := by decide +kernel
theorem dX4_copy_136 : decode cX4_copy 136 = .ok (.invokestatic 145, 3) := by decide +kernel
theorem dX4_copy_139 : decode cX4_copy 139 = .ok (.invokevirtual 205, 3) := by decide +kernel
theorem dX4_copy_142 : decode cX4_copy 142 = .ok (.iinc 8 1, 3) := by decide +kernel
theorem dX4_copy_145 : decode cX4_copy 145 = .ok (.goto (-29), 3) := by decide +kernel
theorem dX4_copy_148 : decode cX4_copy 148 = .ok (.iload 5, 2) := by decide +kernel
theorem dX4_copy_150 : decode cX4_copy 150 = .ok (.ireturn, 1) := by decide +kernel
set_option maxRecDepth 20000 in
theorem tkX4_copy : ∀ q ∈ tbX4_copy, xOk (Zm false yX4_copy.name) RX4 cX4_copy 9 (some .int) pT pY q :=
  fa_c (ok_p (xg_load _ _ _) (x_aload_n dX4_copy_0 rfl)) <|
  fa_c (ok_p (xg_st _ _) (x_iconst dX4_copy_1 rfl)) <|
  fa_c (ok_p (xg_putf _ _ _ _) (x_putfof (C := RX4) (T := TX4) (N := 6) tyX4 tyX4_ok nmX4 rfl (by decide) inX4 kw156 dX4_copy_2 (tyX4_ok 5 (by decide)) (fun _ _ _ _ _ _ => Or.inl rfl))) <|
  fa_c (ok_p (xg_load _ _ _) (x_aload_n dX4_copy_5 rfl)) <|
  fa_c (ok_p (xg_load _ _ _) (x_iload_n dX4_copy_6 rfl)) <|
  fa_c (ok_c pT_102 pY_102 (x_callV (n := 1) (C := RX4) (T := TX4) (N := 6) rfl rfl kw174 kw176 kw0 kw59 kw177 (by decide +kernel) dX4_copy_7)) <|
  fa_c (ok_p (xg_store _ _ _) (x_astore dX4_copy_10)) <|
  fa_c (ok_p (xg_load _ _ _) (x_aload_n dX4_copy_12 rfl)) <|
  fa_c (ok_p (xg_load _ _ _) (x_iload_n dX4_copy_13 rfl)) <|
  fa_c (ok_c pT_102 pY_102 (x_callV (n := 1) (C := RX4) (T := TX4) (N := 6) rfl rfl kw174 kw176 kw0 kw59 kw177 (by decide +kernel) dX4_copy_14)) <|
  fa_c (ok_p (xg_store _ _ _) (x_astore dX4_copy_17)) <|
  fa_c (ok_p (xg_load _ _ _) (x_aload dX4_copy_19)) <|
  fa_c (ok_p (xg_null _ _) (x_ifnull dX4_copy_21 (by decide))) <|
  fa_c (ok_p (xg_load _ _ _) (x_aload dX4_copy_24)) <|
  fa_c (ok_p (xg_null _ _) (x_ifnonnull dX4_copy_26 (by decide))) <|
  fa_c (ok_p (xg_st _ _) (x_iconst dX4_copy_29 rfl)) <|
  fa_c (ok_r ⟨rfl, dX4_copy_30⟩) <|
  fa_c (ok_p (xg_load _ _ _) (x_aload dX4_copy_31)) <|
  fa_c (ok_c pT_61 pY_61 (x_callV (n := 0) (C := RX3) (T := TX3) (N := 3) rfl rfl kw581 kw193 kw194 kw60 kw195 (by decide +kernel) dX4_copy_33)) <|
  fa_c (ok_p (xg_if _ _ _) (x_if_ne dX4_copy_36 (by decide))) <|
  fa_c (ok_p (xg_load _ _ _) (x_aload dX4_copy_39)) <|
  fa_c (ok_c pT_61 pY_61 (x_callV (n := 0) (C := RX3) (T := TX3) (N := 3) rfl rfl kw581 kw193 kw194 kw60 kw195 (by decide +kernel) dX4_copy_41)) <|
  fa_c (ok_p (xg_if _ _ _) (x_if_eq dX4_copy_44 (by decide))) <|
  fa_c (ok_p (xg_load _ _ _) (x_aload_n dX4_copy_47 rfl)) <|
  fa_c (ok_p (xg_st _ _) (x_iconst dX4_copy_48 rfl)) <|
  fa_c (ok_c pT_103 pY_103 (x_callV (n := 1) (C := RX4) (T := TX4) (N := 6) rfl rfl kw213 kw215 kw2 kw59 kw216 (by decide +kernel) dX4_copy_49)) <|
  fa_c (ok_r ⟨rfl, dX4_copy_52⟩) <|
  fa_c (ok_p (xg_load _ _ _) (x_aload dX4_copy_53)) <|
  fa_c (ok_c pT_62 pY_62 (x_callV (n := 0) (C := RX3) (T := TX3) (N := 3) rfl rfl kw608 kw609 kw610 kw60 kw611 (by decide +kernel) dX4_copy_55)) <|
  fa_c (ok_p (xg_load _ _ _) (x_aload dX4_copy_58)) <|
  fa_c (ok_c pT_62 pY_62 (x_callV (n := 0) (C := RX3) (T := TX3) (N := 3) rfl rfl kw608 kw609 kw610 kw60 kw611 (by decide +kernel) dX4_copy_60)) <|
  fa_c (ok_p (xg_icmp _ _ _) (x_icmp_eq dX4_copy_63 (by decide))) <|
  fa_c (ok_p (xg_load _ _ _) (x_aload_n dX4_copy_66 rfl)) <|
  fa_c (ok_p (xg_st _ _) (x_iconst dX4_copy_67 rfl)) <|
  fa_c (ok_c pT_103 pY_103 (x_callV (n := 1) (C := RX4) (T := TX4) (N := 6) rfl rfl kw213 kw215 kw2 kw59 kw216 (by decide +kernel) dX4_copy_68)) <|
  fa_c (ok_r ⟨rfl, dX4_copy_71⟩) <|
  fa_c (ok_p (xg_load _ _ _) (x_aload dX4_copy_72)) <|
  fa_c (ok_p (xg_load _ _ _) (x_iload_n dX4_copy_74 rfl)) <|
  fa_c (ok_p (xg_load _ _ _) (x_iload dX4_copy_75)) <|
  fa_c (ok_c pT_63 pY_63 (x_callV (n := 2) (C := RX3) (T := TX3) (N := 3) rfl rfl kw590 kw197 kw198 kw60 kw199 (by decide +kernel) dX4_copy_77)) <|
  fa_c (ok_p (xg_if _ _ _) (x_if_eq dX4_copy_80 (by decide))) <|
  fa_c (ok_p (xg_load _ _ _) (x_aload dX4_copy_83)) <|
  fa_c (ok_p (xg_load _ _ _) (x_iload dX4_copy_85)) <|
  fa_c (ok_p (xg_load _ _ _) (x_iload dX4_copy_87)) <|
  fa_c (ok_c pT_63 pY_63 (x_callV (n := 2) (C := RX3) (T := TX3) (N := 3) rfl rfl kw590 kw197 kw198 kw60 kw199 (by decide +kernel) dX4_copy_89)) <|
  fa_c (ok_p (xg_if _ _ _) (x_if_ne dX4_copy_92 (by decide))) <|
  fa_c (ok_p (xg_load _ _ _) (x_aload_n dX4_copy_95 rfl)) <|
  fa_c (ok_p (xg_st _ _) (x_iconst dX4_copy_96 rfl)) <|
  fa_c (ok_c pT_103 pY_103 (x_callV (n := 1) (C := RX4) (T := TX4) (N := 6) rfl rfl kw213 kw215 kw2 kw59 kw216 (by decide +kernel) dX4_copy_97)) <|
  fa_c (ok_r ⟨rfl, dX4_copy_100⟩) <|
  fa_c (ok_p (xg_load _ _ _) (x_aload_n dX4_copy_101 rfl)) <|
  fa_c (ok_p (xg_getf _ _ _) (x_getf (C := RX4) (T := TX4) (N := 6) rfl (by decide) inX4 kw154 dX4_copy_102)) <|
  fa_c (ok_p (xg_load _ _ _) (x_aload dX4_copy_105)) <|
  fa_c (ok_p (xg_load _ _ _) (x_iload_n dX4_copy_107 rfl)) <|
  fa_c (ok_p (xg_load _ _ _) (x_iload dX4_copy_108)) <|
  fa_c (ok_c pT_105 pY_105 (x_callS (n := 4) rfl kw200 kw201 kw59 kw202 (by decide +kernel) dX4_copy_110)) <|
  fa_c (ok_p (xg_st _ _) (x_iconst dX4_copy_113 rfl)) <|
  fa_c (ok_p (xg_store _ _ _) (x_istore dX4_copy_114)) <|
  fa_c (ok_p (xg_clr _ (xg_load _ _ _)) (x_clr _ (x_iload dX4_copy_116))) <|
  fa_c (ok_p (xg_load _ _ _) (x_iload dX4_copy_118)) <|
  fa_c (ok_p (xg_icmp _ _ _) (x_icmp_ge dX4_copy_120 (by decide))) <|
  fa_c (ok_p (xg_load _ _ _) (x_aload dX4_copy_123)) <|
  fa_c (ok_p (xg_load _ _ _) (x_iload dX4_copy_125)) <|
  fa_c (ok_p (xg_load _ _ _) (x_iload dX4_copy_127)) <|
  fa_c (ok_p (xg_st _ _) (x_iadd dX4_copy_129)) <|
  fa_c (ok_p (xg_load _ _ _) (x_aload_n dX4_copy_130 rfl)) <|
  fa_c (ok_p (xg_getf _ _ _) (x_getf (C := RX4) (T := TX4) (N := 6) rfl (by decide) inX4 kw154 dX4_copy_131)) <|
  fa_c (ok_p (xg_load _ _ _) (x_iload dX4_copy_134)) <|
  fa_c (ok_c pT_119 pY_119 (x_callS (n := 2) rfl kw409 kw208 kw59 kw209 (by decide +kernel) dX4_copy_136)) <|
  fa_c (ok_c pT_68 pY_68 (x_callV (n := 2) (C := RX3) (T := TX3) (N := 3) rfl rfl kw591 kw592 kw593 kw60 kw594 (by decide +kernel) dX4_copy_139)) <|
  fa_c (ok_p (xg_iinc _ _ _) (x_iinc dX4_copy_142 rfl)) <|
  fa_c (ok_p (xg_st _ _) (x_goto dX4_copy_145 (by decide))) <|
  fa_c (ok_p (xg_load _ _ _) (x_iload dX4_copy_148)) <|
  fa_c (ok_r ⟨rfl, dX4_copy_150⟩) <|
  fa_n
theorem dX4_tell_0 : decode cX4_tell 0 = .ok (.aload_n 0, 1) := by decide +kernel
theorem dX4_tell_1 : decode cX4_tell 1 = .ok (.getfield 21, 3) := by decide +kernel
theorem dX4_tell_4 : decode cX4_tell 4 = .ok (.iload_n 1, 1) := by decide +kernel
theorem dX4_tell_5 : decode cX4_tell 5 = .ok (.invokevirtual 74, 3) := by decide +kernel
theorem dX4_tell_8 : decode cX4_tell 8 = .ok (.ifCond .ne 5, 3) := by decide +kernel
theorem dX4_tell_11 : decode cX4_tell 11 = .ok (.iconst (-1), 1) := by decide +kernel
theorem dX4_tell_12 : decode cX4_tell 12 = .ok (.ireturn, 1) := by decide +kernel
theorem dX4_tell_13 : decode cX4_tell 13 = .ok (.aload_n 0, 1) := by decide +kernel
theorem dX4_tell_14 : decode cX4_tell 14 = .ok (.getfield 21, 3) := by decide +kernel
theorem dX4_tell_17 : decode cX4_tell 17 = .ok (.iload_n 1, 1) := by decide +kernel
theorem dX4_tell_18 : decode cX4_tell 18 = .ok (.invokevirtual 77, 3) := by decide +kernel
theorem dX4_tell_21 : decode cX4_tell 21 = .ok (.lookupswitch 39 #[(1, 33), (2, 27)], 27) := by decide +kernel
theorem dX4_tell_48 : decode cX4_tell 48 = .ok (.aload_n 0, 1) := by decide +kernel
theorem dX4_tell_49 : decode cX4_tell 49 = .ok (.iload_n 1, 1) := by decide +kernel
theorem dX4_tell_50 : decode cX4_tell 50 = .ok (.invokevirtual 221, 3) := by decide +kernel
theorem dX4_tell_53 : decode cX4_tell 53 = .ok (.ireturn, 1) := by decide +kernel
theorem dX4_tell_54 : decode cX4_tell 54 = .ok (.aload_n 0, 1) := by decide +kernel
theorem dX4_tell_55 : decode cX4_tell 55 = .ok (.iload_n 1, 1) := by decide +kernel
theorem dX4_tell_56 : decode cX4_tell 56 = .ok (.invokevirtual 224, 3) := by decide +kernel
theorem dX4_tell_59 : decode cX4_tell 59 = .ok (.ireturn, 1) := by decide +kernel
theorem dX4_tell_60 : decode cX4_tell 60 = .ok (.aload_n 0, 1) := by decide +kernel
theorem dX4_tell_61 : decode cX4_tell 61 = .ok (.iload_n 1, 1) := by decide +kernel
theorem dX4_tell_62 : decode cX4_tell 62 = .ok (.invokevirtual 227, 3) := by decide +kernel
theorem dX4_tell_65 : decode cX4_tell 65 = .ok (.ireturn, 1) := by decide +kernel
set_option maxRecDepth 20000 in
theorem tkX4_tell : ∀ q ∈ tbX4_tell, xOk (Zm false yX4_tell.name) RX4 cX4_tell 2 (some .int) pT pY q :=
  fa_c (ok_p (xg_load _ _ _) (x_aload_n dX4_tell_0 rfl)) <|
  fa_c (ok_p (xg_getf _ _ _) (x_getf (C := RX4) (T := TX4) (N := 6) rfl (by decide) inX4 kw152 dX4_tell_1)) <|
  fa_c (ok_p (xg_load _ _ _) (x_iload_n dX4_tell_4 rfl)) <|
  fa_c (ok_c pT_17 pY_17 (x_callV (n := 1) (C := RX1) (T := TX1) (N := 10) rfl rfl kw279 kw280 kw281 kw61 kw282 (by decide +kernel) dX4_tell_5)) <|
  fa_c (ok_p (xg_if _ _ _) (x_if_ne dX4_tell_8 (by decide))) <|
  fa_c (ok_p (xg_st _ _) (x_iconst dX4_tell_11 rfl)) <|
  fa_c (ok_r ⟨rfl, dX4_tell_12⟩) <|
  fa_c (ok_p (xg_load _ _ _) (x_aload_n dX4_tell_13 rfl)) <|
  fa_c (ok_p (xg_getf _ _ _) (x_getf (C := RX4) (T := TX4) (N := 6) rfl (by decide) inX4 kw152 dX4_tell_14)) <|
  fa_c (ok_p (xg_load _ _ _) (x_iload_n dX4_tell_17 rfl)) <|
  fa_c (ok_c pT_20 pY_20 (x_callV (n := 1) (C := RX1) (T := TX1) (N := 10) rfl rfl kw283 kw284 kw285 kw61 kw286 (by decide +kernel) dX4_tell_18)) <|
  fa_c (ok_p (xg_sw _ _) (x_lsw dX4_tell_21 (by decide) (x_lsw_all _ _ _ (by decide +kernel) (by decide)))) <|
  fa_c (ok_p (xg_load _ _ _) (x_aload_n dX4_tell_48 rfl)) <|
  fa_c (ok_p (xg_load _ _ _) (x_iload_n dX4_tell_49 rfl)) <|
  fa_c (ok_c pT_111 pY_111 (x_callV (n := 1) (C := RX4) (T := TX4) (N := 6) rfl rfl kw616 kw618 kw20 kw59 kw619 (by decide +kernel) dX4_tell_50)) <|
  fa_c (ok_r ⟨rfl, dX4_tell_53⟩) <|
  fa_c (ok_p (xg_load _ _ _) (x_aload_n dX4_tell_54 rfl)) <|
  fa_c (ok_p (xg_load _ _ _) (x_iload_n dX4_tell_55 rfl)) <|
  fa_c (ok_c pT_110 pY_110 (x_callV (n := 1) (C := RX4) (T := TX4) (N := 6) rfl rfl kw624 kw626 kw22 kw59 kw627 (by decide +kernel) dX4_tell_56)) <|
  fa_c (ok_r ⟨rfl, dX4_tell_59⟩) <|
  fa_c (ok_p (xg_load _ _ _) (x_aload_n dX4_tell_60 rfl)) <|
  fa_c (ok_p (xg_load _ _ _) (x_iload_n dX4_tell_61 rfl)) <|
  fa_c (ok_c pT_109 pY_109 (x_callV (n := 1) (C := RX4) (T := TX4) (N := 6) rfl rfl kw628 kw630 kw23 kw59 kw631 (by decide +kernel) dX4_tell_62)) <|
  fa_c (ok_r ⟨rfl, dX4_tell_65⟩) <|
  fa_n
theorem dX4_greet_0 : decode cX4_greet 0 = .ok (.aload_n 0, 1) := by decide +kernel
theorem dX4_greet_1 : decode cX4_greet 1 = .ok (.getfield 21, 3) := by decide +kernel
theorem dX4_greet_4 : decode cX4_greet 4 = .ok (.iload_n 1, 1) := by decide +kernel
theorem dX4_greet_5 : decode cX4_greet 5 = .ok (.invokevirtual 74, 3) := by decide +kernel
theorem dX4_greet_8 : decode cX4_greet 8 = .ok (.ifCond .ne 5, 3) := by decide +kernel
theorem dX4_greet_11 : decode cX4_greet 11 = .ok (.iconst (-1), 1) := by decide +kernel
theorem dX4_greet_12 : decode cX4_greet 12 = .ok (.ireturn, 1) := by decide +kernel
theorem dX4_greet_13 : decode cX4_greet 13 = .ok (.aload_n 0, 1) := by decide +kernel
theorem dX4_greet_14 : decode cX4_greet 14 = .ok (.getfield 21, 3) := by decide +kernel
theorem dX4_greet_17 : decode cX4_greet 17 = .ok (.iload_n 1, 1) := by decide +kernel
theorem dX4_greet_18 : decode cX4_greet 18 = .ok (.invokevirtual 77, 3) := by decide +kernel
theorem dX4_greet_21 : decode cX4_greet 21 = .ok (.iconst 2, 1) := by decide +kernel
theorem dX4_greet_22 : decode cX4_greet 22 = .ok (.if_icmp .ne 10, 3) := by decide +kernel
theorem dX4_greet_25 : decode cX4_greet 25 = .ok (.aload_n 0, 1) := by decide +kernel
theorem dX4_greet_26 : decode cX4_greet 26 = .ok (.invokevirtual 230, 3) := by decide +kernel
theorem dX4_greet_29 : decode cX4_greet 29 = .ok (.goto 8, 3) := by decide +kernel
theorem dX4_greet_32 : decode cX4_greet 32 = .ok (.aload_n 0, 1) := by decide +kernel
theorem dX4_greet_33 : decode cX4_greet 33 = .ok (.iload_n 1, 1) := by decide +kernel
theorem dX4_greet_34 : decode cX4_greet 34 = .ok (.invokevirtual 233, 3) := by decide +kernel
theorem dX4_greet_37 : decode cX4_greet 37 = .ok (.ireturn, 1) := by decide +kernel
set_option maxRecDepth 20000 in
theorem tkX4_greet : ∀ q ∈ tbX4_greet, xOk (Zm false yX4_greet.name) RX4 cX4_greet 2 (some .int) pT pY q :=
  fa_c (ok_p (xg_load _ _ _) (x_aload_n dX4_greet_0 rfl)) <|
  fa_c (ok_p (xg_getf _ _ _) (x_getf (C := RX4) (T := TX4) (N := 6) rfl (by decide) inX4 kw152 dX4_greet_1)) <|
  fa_c (ok_p (xg_load _ _ _) (x_iload_n dX4_greet_4 rfl)) <|
  fa_c (ok_c pT_17 pY_17 (x_callV (n := 1) (C := RX1) (T := TX1) (N := 10) rfl rfl kw279 kw280 kw281 kw61 kw282 (by decide +kernel) dX4_greet_5)) <|
  fa_c (ok_p (xg_if _ _ _) (x_if_ne dX4_greet_8 (by decide))) <|
  fa_c (ok_p (xg_st _ _) (x_iconst dX4_greet_11 rfl)) <|
  fa_c (ok_r ⟨rfl, dX4_greet_12⟩) <|
  fa_c (ok_p (xg_load _ _ _) (x_aload_n dX4_greet_13 rfl)) <|
  fa_c (ok_p (xg_getf _ _ _) (x_getf (C := RX4) (T := TX4) (N := 6) rfl (by decide) inX4 kw152 dX4_greet_14)) <|
  fa_c (ok_p (xg_load _ _ _) (x_iload_n dX4_greet_17 rfl)) <|
  fa_c (ok_c pT_20 pY_20 (x_callV (n := 1) (C := RX1) (T := TX1) (N := 10) rfl rfl kw283 kw284 kw285 kw61 kw286 (by decide +kernel) dX4_greet_18)) <|
  fa_c (ok_p (xg_st _ _) (x_iconst dX4_greet_21 rfl)) <|
  fa_c (ok_p (xg_icmp _ _ _) (x_icmp_ne dX4_greet_22 (by decide))) <|
  fa_c (ok_p (xg_load _ _ _) (x_aload_n dX4_greet_25 rfl)) <|
  fa_c (ok_c pT_113 pY_113 (x_callV (n := 0) (C := RX4) (T := TX4) (N := 6) rfl rfl kw636 kw638 kw24 kw59 kw639 (by decide +kernel) dX4_greet_26)) <|
  fa_c (ok_p (xg_st _ _) (x_goto dX4_greet_29 (by decide))) <|
  fa_c (ok_p (xg_load _ _ _) (x_aload_n dX4_greet_32 rfl)) <|
  fa_c (ok_p (xg_load _ _ _) (x_iload_n dX4_greet_33 rfl)) <|
  fa_c (ok_c pT_112 pY_112 (x_callV (n := 1) (C := RX4) (T := TX4) (N := 6) rfl rfl kw640 kw642 kw25 kw59 kw643 (by decide +kernel) dX4_greet_34)) <|
  fa_c (ok_r ⟨rfl, dX4_greet_37⟩) <|
  fa_n
theorem dX4_as_0 : decode cX4_as 0 = .ok (.aload_n 0, 1) := by decide +kernel
theorem dX4_as_1 : decode cX4_as 1 = .ok (.iconst 0, 1) := by decide +kernel
theorem dX4_as_2 : decode cX4_as 2 = .ok (.putfield 36, 3) := by decide +kernel
theorem dX4_as_5 : decode cX4_as 5 = .ok (.aload_n 0, 1) := by decide +kernel
theorem dX4_as_6 : decode cX4_as 6 = .ok (.getfield 21, 3) := by decide +kernel
theorem dX4_as_9 : decode cX4_as 9 = .ok (.iload_n 1, 1) := by decide +kernel
theorem dX4_as_10 : decode cX4_as 10 = .ok (.invokevirtual 74, 3) := by decide +kernel
theorem dX4_as_13 : decode cX4_as 13 = .ok (.ifCond .ne 5, 3) := by decide +kernel
theorem dX4_as_16 : decode cX4_as 16 = .ok (.iconst (-1), 1) := by decide +kernel
theorem dX4_as_17 : decode cX4_as 17 = .ok (.ireturn, 1) := by decide +kernel
theorem dX4_as_18 : decode cX4_as 18 = .ok (.iload_n 2, 1) := by decide +kernel
theorem dX4_as_19 : decode cX4_as 19 = .ok (.iconst 0, 1) := by decide +kernel
theorem dX4_as_20 : decode cX4_as 20 = .ok (.iconst 2, 1) := by decide +kernel
theorem dX4_as_21 : decode cX4_as 21 = .ok (.invokestatic 141, 3) := by decide +kernel
theorem dX4_as_24 : decode cX4_as 24 = .ok (.ifCond .ne 6, 3) := by decide +kernel
theorem dX4_as_27 : decode cX4_as 27 = .ok (.bipush (-2), 2) := by decide +kernel
theorem dX4_as_29 : decode cX4_as 29 = .ok (.ireturn, 1) := by decide +kernel
theorem dX4_as_30 : decode cX4_as 30 = .ok (.aload_n 0, 1) := by decide +kernel
theorem dX4_as_31 : decode cX4_as 31 = .ok (.getfield 21, 3) := by decide +kernel
theorem dX4_as_34 : decode cX4_as 34 = .ok (.iload_n 1, 1) := by decide +kernel
theorem dX4_as_35 : decode cX4_as 35 = .ok (.invokevirtual 77, 3) := by decide +kernel
theorem dX4_as_38 : decode cX4_as 38 = .ok (.iload_n 2, 1) := by decide +kernel
theorem dX4_as_39 : decode cX4_as 39 = .ok (.if_icmp .lt 7, 3) := by decide +kernel
theorem dX4_as_42 : decode cX4_as 42 = .ok (.iconst 1, 1) := by decide +kernel
theorem dX4_as_43 : decode cX4_as 43 = .ok (.goto 8, 3) := by decide +kernel
theorem dX4_as_46 : decode cX4_as 46 = .ok (.aload_n 0, 1) := by decide +kernel
theorem dX4_as_47 : decode cX4_as 47 = .ok (.iconst 2, 1) := by decide +kernel
theorem dX4_as_48 : decode cX4_as 48 = .ok (.invokevirtual 52, 3) := by decide +kernel
theorem dX4_as_51 : decode cX4_as 51 = .ok (.ireturn, 1) := by decide +kernel
set_option maxRecDepth 20000 in
theorem tkX4_as : ∀ q ∈ tbX4_as, xOk (Zm false yX4_as.name) RX4 cX4_as 3 (some .int) pT pY q :=
  fa_c (ok_p (xg_load _ _ _) (x_aload_n dX4_as_0 rfl)) <|
  fa_c (ok_p (xg_st _ _) (x_iconst dX4_as_1 rfl)) <|
  fa_c (ok_p (xg_putf _ _ _ _) (x_putfof (C := RX4) (T := TX4) (N := 6) tyX4 tyX4_ok nmX4 rfl (by decide) inX4 kw156 dX4_as_2 (tyX4_ok 5 (by decide)) (fun _ _ _ _ _ _ => Or.inl rfl))) <|
  fa_c (ok_p (xg_load _ _ _) (x_aload_n dX4_as_5 rfl)) <|
  fa_c (ok_p (xg_getf _ _ _) (x_getf (C := RX4) (T := TX4) (N := 6) rfl (by decide) inX4 kw152 dX4_as_6)) <|
  fa_c (ok_p (xg_load _ _ _) (x_iload_n dX4_as_9 rfl)) <|
  fa_c (ok_c pT_17 pY_17 (x_callV (n := 1) (C := RX1) (T := TX1) (N := 10) rfl rfl kw279 kw280 kw281 kw61 kw282 (by decide +kernel) dX4_as_10)) <|
  fa_c (ok_p (xg_if _ _ _) (x_if_ne dX4_as_13 (by decide))) <|
  fa_c (ok_p (xg_st _ _) (x_iconst dX4_as_16 rfl)) <|
  fa_c (ok_r ⟨rfl, dX4_as_17⟩) <|
  fa_c (ok_p (xg_load _ _ _) (x_iload_n dX4_as_18 rfl)) <|
  fa_c (ok_p (xg_st _ _) (x_iconst dX4_as_19 rfl)) <|
  fa_c (ok_p (xg_st _ _) (x_iconst dX4_as_20 rfl)) <|
  fa_c (ok_c pT_114 pY_114 (x_callS (n := 3) rfl kw181 kw182 kw59 kw183 (by decide +kernel) dX4_as_21)) <|
  fa_c (ok_p (xg_if _ _ _) (x_if_ne dX4_as_24 (by decide))) <|
  fa_c (ok_p (xg_st _ _) (x_bipush dX4_as_27 rfl)) <|
  fa_c (ok_r ⟨rfl, dX4_as_29⟩) <|
  fa_c (ok_p (xg_load _ _ _) (x_aload_n dX4_as_30 rfl)) <|
  fa_c (ok_p (xg_getf _ _ _) (x_getf (C := RX4) (T := TX4) (N := 6) rfl (by decide) inX4 kw152 dX4_as_31)) <|
  fa_c (ok_p (xg_load _ _ _) (x_iload_n dX4_as_34 rfl)) <|
  fa_c (ok_c pT_20 pY_20 (x_callV (n := 1) (C := RX1) (T := TX1) (N := 10) rfl rfl kw283 kw284 kw285 kw61 kw286 (by decide +kernel) dX4_as_35)) <|
  fa_c (ok_p (xg_load _ _ _) (x_iload_n dX4_as_38 rfl)) <|
  fa_c (ok_p (xg_icmp _ _ _) (x_icmp_lt dX4_as_39 (by decide))) <|
  fa_c (ok_p (xg_st _ _) (x_iconst dX4_as_42 rfl)) <|
  fa_c (ok_p (xg_st _ _) (x_goto dX4_as_43 (by decide))) <|
  fa_c (ok_p (xg_load _ _ _) (x_aload_n dX4_as_46 rfl)) <|
  fa_c (ok_p (xg_st _ _) (x_iconst dX4_as_47 rfl)) <|
  fa_c (ok_c pT_103 pY_103 (x_callV (n := 1) (C := RX4) (T := TX4) (N := 6) rfl rfl kw213 kw215 kw2 kw59 kw216 (by decide +kernel) dX4_as_48)) <|
  fa_c (ok_r ⟨rfl, dX4_as_51⟩) <|
  fa_n
theorem dX4_trace_0 : decode cX4_trace 0 = .ok (.aload_n 0, 1) := by decide +kernel
theorem dX4_trace_1 : decode cX4_trace 1 = .ok (.getfield 236, 3) := by decide +kernel
theorem dX4_trace_4 : decode cX4_trace 4 = .ok (.ireturn, 1) := by decide +kernel
set_option maxRecDepth 20000 in
theorem tkX4_trace : ∀ q ∈ tbX4_trace, xOk (Zm false yX4_trace.name) RX4 cX4_trace 1 (some .int) pT pY q :=
  fa_c (ok_p (xg_load _ _ _) (x_aload_n dX4_trace_0 rfl)) <|
  fa_c (ok_p (xg_getf _ _ _) (x_getf (C := RX4) (T := TX4) (N := 6) rfl (by decide) inX4 kw155 dX4_trace_1)) <|
  fa_c (ok_r ⟨rfl, dX4_trace_4⟩) <|
  fa_n
theorem dX4_fault_0 : decode cX4_fault 0 = .ok (.aload_n 0, 1) := by decide +kernel
theorem dX4_fault_1 : decode cX4_fault 1 = .ok (.getfield 36, 3) := by decide +kernel
theorem dX4_fault_4 : decode cX4_fault 4 = .ok (.ireturn, 1) := by decide +kernel
set_option maxRecDepth 20000 in
theorem tkX4_fault : ∀ q ∈ tbX4_fault, xOk (Zm false yX4_fault.name) RX4 cX4_fault 1 (some .int) pT pY q :=
  fa_c (ok_p (xg_load _ _ _) (x_aload_n dX4_fault_0 rfl)) <|
  fa_c (ok_p (xg_getf _ _ _) (x_getf (C := RX4) (T := TX4) (N := 6) rfl (by decide) inX4 kw156 dX4_fault_1)) <|
  fa_c (ok_r ⟨rfl, dX4_fault_4⟩) <|
  fa_n
theorem dX4_many_0 : decode cX4_many 0 = .ok (.iload_n 1, 1) := by decide +kernel
theorem dX4_many_1 : decode cX4_many 1 = .ok (.tableswitch 102 0 6 #[43, 51, 59, 67, 75, 83, 94], 43) := by decide +kernel
theorem dX4_many_44 : decode cX4_many 44 = .ok (.aload_n 0, 1) := by decide +kernel
theorem dX4_many_45 : decode cX4_many 45 = .ok (.getfield 21, 3) := by decide +kernel
theorem dX4_many_48 : decode cX4_many 48 = .ok (.invokevirtual 239, 3) := by decide +kernel
theorem dX4_many_51 : decode cX4_many 51 = .ok (.ireturn, 1) := by decide +kernel
theorem dX4_many_52 : decode cX4_many 52 = .ok (.aload_n 0, 1) := by decide +kernel
theorem dX4_many_53 : decode cX4_many 53 = .ok (.getfield 21, 3) := by decide +kernel
theorem dX4_many_56 : decode cX4_many 56 = .ok (.invokevirtual 242, 3) := by decide +kernel
theorem dX4_many_59 : decode cX4_many 59 = .ok (.ireturn, 1) := by decide +kernel
theorem dX4_many_60 : decode cX4_many 60 = .ok (.aload_n 0, 1) := by decide +kernel
theorem dX4_many_61 : decode cX4_many 61 = .ok (.getfield 21, 3) := by decide +kernel
theorem dX4_many_64 : decode cX4_many 64 = .ok (.invokevirtual 70, 3) := by decide +kernel
theorem dX4_many_67 : decode cX4_many 67 = .ok (.ireturn, 1) := by decide +kernel
theorem dX4_many_68 : decode cX4_many 68 = .ok (.aload_n 0, 1) := by decide +kernel
theorem dX4_many_69 : decode cX4_many 69 = .ok (.getfield 21, 3) := by decide +kernel
theorem dX4_many_72 : decode cX4_many 72 = .ok (.invokevirtual 86, 3) := by decide +kernel
theorem dX4_many_75 : decode cX4_many 75 = .ok (.ireturn, 1) := by decide +kernel
theorem dX4_many_76 : decode cX4_many 76 = .ok (.aload_n 0, 1) := by decide +kernel
theorem dX4_many_77 : decode cX4_many 77 = .ok (.getfield 21, 3) := by decide +kernel
theorem dX4_many_80 : decode cX4_many 80 = .ok (.invokevirtual 245, 3) := by decide +kernel
theorem dX4_many_83 : decode cX4_many 83 = .ok (.ireturn, 1) := by decide +kernel
theorem dX4_many_84 : decode cX4_many 84 = .ok (.aload_n 0, 1) := by decide +kernel
theorem dX4_many_85 : decode cX4_many 85 = .ok (.getfield 21, 3) := by decide +kernel
theorem dX4_many_88 : decode cX4_many 88 = .ok (.invokevirtual 122, 3) := by decide +kernel
theorem dX4_many_91 : decode cX4_many 91 = .ok (.invokestatic 134, 3) := by decide +kernel
theorem dX4_many_94 : decode cX4_many 94 = .ok (.ireturn, 1) := by decide +kernel
theorem dX4_many_95 : decode cX4_many 95 = .ok (.aload_n 0, 1) := by decide +kernel
theorem dX4_many_96 : decode cX4_many 96 = .ok (.getfield 28, 3) := by decide +kernel
theorem dX4_many_99 : decode cX4_many 99 = .ok (.invokevirtual 176, 3) := by decide +kernel
theorem dX4_many_102 : decode cX4_many 102 = .ok (.ireturn, 1) := by decide +kernel
theorem dX4_many_103 : decode cX4_many 103 = .ok (.bipush (-2), 2) := by decide +kernel
theorem dX4_many_105 : decode cX4_many 105 = .ok (.ireturn, 1) := by decide +kernel
set_option maxRecDepth 20000 in
theorem tkX4_many : ∀ q ∈ tbX4_many, xOk (Zm false yX4_many.name) RX4 cX4_many 2 (some .int) pT pY q :=
  fa_c (ok_p (xg_load _ _ _) (x_iload_n dX4_many_0 rfl)) <|
  fa_c (ok_p (xg_sw _ _) (x_tsw dX4_many_1 (by decide) (by decide +kernel) (by decide +kernel))) <|
  fa_c (ok_p (xg_load _ _ _) (x_aload_n dX4_many_44 rfl)) <|
  fa_c (ok_p (xg_getf _ _ _) (x_getf (C := RX4) (T := TX4) (N := 6) rfl (by decide) inX4 kw152 dX4_many_45)) <|
  fa_c (ok_c pT_9 pY_9 (x_callV (n := 0) (C := RX1) (T := TX1) (N := 10) rfl rfl kw660 kw661 kw662 kw61 kw663 (by decide +kernel) dX4_many_48)) <|
  fa_c (ok_r ⟨rfl, dX4_many_51⟩) <|
  fa_c (ok_p (xg_load _ _ _) (x_aload_n dX4_many_52 rfl)) <|
  fa_c (ok_p (xg_getf _ _ _) (x_getf (C := RX4) (T := TX4) (N := 6) rfl (by decide) inX4 kw152 dX4_many_53)) <|
  fa_c (ok_c pT_10 pY_10 (x_callV (n := 0) (C := RX1) (T := TX1) (N := 10) rfl rfl kw664 kw665 kw666 kw61 kw667 (by decide +kernel) dX4_many_56)) <|
  fa_c (ok_r ⟨rfl, dX4_many_59⟩) <|
  fa_c (ok_p (xg_load _ _ _) (x_aload_n dX4_many_60 rfl)) <|
  fa_c (ok_p (xg_getf _ _ _) (x_getf (C := RX4) (T := TX4) (N := 6) rfl (by decide) inX4 kw152 dX4_many_61)) <|
  fa_c (ok_c pT_11 pY_11 (x_callV (n := 0) (C := RX1) (T := TX1) (N := 10) rfl rfl kw271 kw272 kw273 kw61 kw274 (by decide +kernel) dX4_many_64)) <|
  fa_c (ok_r ⟨rfl, dX4_many_67⟩) <|
  fa_c (ok_p (xg_load _ _ _) (x_aload_n dX4_many_68 rfl)) <|
  fa_c (ok_p (xg_getf _ _ _) (x_getf (C := RX4) (T := TX4) (N := 6) rfl (by decide) inX4 kw152 dX4_many_69)) <|
  fa_c (ok_c pT_12 pY_12 (x_callV (n := 0) (C := RX1) (T := TX1) (N := 10) rfl rfl kw295 kw296 kw297 kw61 kw298 (by decide +kernel) dX4_many_72)) <|
  fa_c (ok_r ⟨rfl, dX4_many_75⟩) <|
  fa_c (ok_p (xg_load _ _ _) (x_aload_n dX4_many_76 rfl)) <|
  fa_c (ok_p (xg_getf _ _ _) (x_getf (C := RX4) (T := TX4) (N := 6) rfl (by decide) inX4 kw152 dX4_many_77)) <|
  fa_c (ok_c pT_14 pY_14 (x_callV (n := 0) (C := RX1) (T := TX1) (N := 10) rfl rfl kw668 kw669 kw670 kw61 kw671 (by decide +kernel) dX4_many_80)) <|
  fa_c (ok_r ⟨rfl, dX4_many_83⟩) <|
  fa_c (ok_p (xg_load _ _ _) (x_aload_n dX4_many_84 rfl)) <|
  fa_c (ok_p (xg_getf _ _ _) (x_getf (C := RX4) (T := TX4) (N := 6) rfl (by decide) inX4 kw152 dX4_many_85)) <|
  fa_c (ok_c pT_13 pY_13 (x_callV (n := 0) (C := RX1) (T := TX1) (N := 10) rfl rfl kw371 kw372 kw373 kw61 kw374 (by decide +kernel) dX4_many_88)) <|
  fa_c (ok_c pT_195 pY_195 (x_callS (n := 1) rfl kw395 kw396 kw67 kw397 (by decide +kernel) dX4_many_91)) <|
  fa_c (ok_r ⟨rfl, dX4_many_94⟩) <|
  fa_c (ok_p (xg_load _ _ _) (x_aload_n dX4_many_95 rfl)) <|
  fa_c (ok_p (xg_getf _ _ _) (x_getf (C := RX4) (T := TX4) (N := 6) rfl (by decide) inX4 kw153 dX4_many_96)) <|
  fa_c (ok_c pT_1 pY_1 (x_callV (n := 0) (C := RX0) (T := TX0) (N := 4) rfl rfl kw531 kw532 kw533 kw62 kw534 (by decide +kernel) dX4_many_99)) <|
  fa_c (ok_r ⟨rfl, dX4_many_102⟩) <|
  fa_c (ok_p (xg_st _ _) (x_bipush dX4_many_103 rfl)) <|
  fa_c (ok_r ⟨rfl, dX4_many_105⟩) <|
  fa_n
theorem dX4_sheetOf_0 : decode cX4_sheetOf 0 = .ok (.iload_n 1, 1) := by decide +kernel
theorem dX4_sheetOf_1 : decode cX4_sheetOf 1 = .ok (.ifCond .lt 21, 3) := by decide +kernel
theorem dX4_sheetOf_4 : decode cX4_sheetOf 4 = .ok (.iload_n 1, 1) := by decide +kernel
theorem dX4_sheetOf_5 : decode cX4_sheetOf 5 = .ok (.aload_n 0, 1) := by decide +kernel
theorem dX4_sheetOf_6 : decode cX4_sheetOf 6 = .ok (.getfield 12, 3) := by decide +kernel
theorem dX4_sheetOf_9 : decode cX4_sheetOf 9 = .ok (.arraylength, 1) := by decide +kernel
theorem dX4_sheetOf_10 : decode cX4_sheetOf 10 = .ok (.if_icmp .ge 12, 3) := by decide +kernel
theorem dX4_sheetOf_13 : decode cX4_sheetOf 13 = .ok (.aload_n 0, 1) := by decide +kernel
theorem dX4_sheetOf_14 : decode cX4_sheetOf 14 = .ok (.getfield 12, 3) := by decide +kernel
theorem dX4_sheetOf_17 : decode cX4_sheetOf 17 = .ok (.iload_n 1, 1) := by decide +kernel
theorem dX4_sheetOf_18 : decode cX4_sheetOf 18 = .ok (.aaload, 1) := by decide +kernel
theorem dX4_sheetOf_19 : decode cX4_sheetOf 19 = .ok (.goto 4, 3) := by decide +kernel
theorem dX4_sheetOf_22 : decode cX4_sheetOf 22 = .ok (.aconst_null, 1) := by decide +kernel
theorem dX4_sheetOf_23 : decode cX4_sheetOf 23 = .ok (.areturn, 1) := by decide +kernel
set_option maxRecDepth 20000 in
theorem tkX4_sheetOf : ∀ q ∈ tbX4_sheetOf, xOk (Zm false yX4_sheetOf.name) RX4 cX4_sheetOf 2 (some (.object "HullCharts$Sheet")) pT pY q :=
  fa_c (ok_p (xg_load _ _ _) (x_iload_n dX4_sheetOf_0 rfl)) <|
  fa_c (ok_p (xg_if _ _ _) (x_if_lt dX4_sheetOf_1 (by decide))) <|
  fa_c (ok_p (xg_load _ _ _) (x_iload_n dX4_sheetOf_4 rfl)) <|
  fa_c (ok_p (xg_load _ _ _) (x_aload_n dX4_sheetOf_5 rfl)) <|
  fa_c (ok_p (xg_getf _ _ _) (x_getf (C := RX4) (T := TX4) (N := 6) rfl (by decide) inX4 kw151 dX4_sheetOf_6)) <|
  fa_c (ok_p (xg_alen _) (x_alen dX4_sheetOf_9)) <|
  fa_c (ok_p (xg_icmp _ _ _) (x_icmp_ge dX4_sheetOf_10 (by decide))) <|
  fa_c (ok_p (xg_load _ _ _) (x_aload_n dX4_sheetOf_13 rfl)) <|
  fa_c (ok_p (xg_getf _ _ _) (x_getf (C := RX4) (T := TX4) (N := 6) rfl (by decide) inX4 kw151 dX4_sheetOf_14)) <|
  fa_c (ok_p (xg_load _ _ _) (x_iload_n dX4_sheetOf_17 rfl)) <|
  fa_c (ok_p (xg_aald _) (x_aald dX4_sheetOf_18)) <|
  fa_c (ok_p (xg_st _ _) (x_goto dX4_sheetOf_19 (by decide))) <|
  fa_c (ok_p (xg_st _ _) (x_null dX4_sheetOf_22)) <|
  fa_c (ok_r ⟨rfl, dX4_sheetOf_23⟩) <|
  fa_n
theorem dX4_faulted_0 : decode cX4_faulted 0 = .ok (.aload_n 0, 1) := by decide +kernel
theorem dX4_faulted_1 : decode cX4_faulted 1 = .ok (.iload_n 1, 1) := by decide +kernel
theorem dX4_faulted_2 : decode cX4_faulted 2 = .ok (.putfield 36, 3) := by decide +kernel
theorem dX4_faulted_5 : decode cX4_faulted 5 = .ok (.bipush (-10), 2) := by decide +kernel
theorem dX4_faulted_7 : decode cX4_faulted 7 = .ok (.iload_n 1, 1) := by decide +kernel
theorem dX4_faulted_8 : decode cX4_faulted 8 = .ok (.isub, 1) := by decide +kernel
theorem dX4_faulted_9 : decode cX4_faulted 9 = .ok (.ireturn, 1) := by decide +kernel
set_option maxRecDepth 20000 in
theorem tkX4_faulted : ∀ q ∈ tbX4_faulted, xOk (Zm false yX4_faulted.name) RX4 cX4_faulted 2 (some .int) pT pY q :=
  fa_c (ok_p (xg_load _ _ _) (x_aload_n dX4_faulted_0 rfl)) <|
  fa_c (ok_p (xg_load _ _ _) (x_iload_n dX4_faulted_1 rfl)) <|
  fa_c (ok_p (xg_putf _ _ _ _) (x_putfof (C := RX4) (T := TX4) (N := 6) tyX4 tyX4_ok nmX4 rfl (by decide) inX4 kw156 dX4_faulted_2 (tyX4_ok 5 (by decide)) (fun _ _ _ _ _ _ => Or.inl rfl))) <|
  fa_c (ok_p (xg_st _ _) (x_bipush dX4_faulted_5 rfl)) <|
  fa_c (ok_p (xg_load _ _ _) (x_iload_n dX4_faulted_7 rfl)) <|
  fa_c (ok_p (xg_st _ _) (x_isub dX4_faulted_8)) <|
  fa_c (ok_r ⟨rfl, dX4_faulted_9⟩) <|
  fa_n
theorem dX4_take_0 : decode cX4_take 0 = .ok (.aload_n 1, 1) := by decide +kernel
theorem dX4_take_1 : decode cX4_take 1 = .ok (.iload_n 2, 1) := by decide +kernel
theorem dX4_take_2 : decode cX4_take 2 = .ok (.iload_n 3, 1) := by decide +kernel
theorem dX4_take_3 : decode cX4_take 3 = .ok (.iload 4, 2) := by decide +kernel
theorem dX4_take_5 : decode cX4_take 5 = .ok (.invokevirtual 208, 3) := by decide +kernel
theorem dX4_take_8 : decode cX4_take 8 = .ok (.istore 5, 2) := by decide +kernel
theorem dX4_take_10 : decode cX4_take 10 = .ok (.iload 5, 2) := by decide +kernel
theorem dX4_take_12 : decode cX4_take 12 = .ok (.ifCond .ne 14, 3) := by decide +kernel
theorem dX4_take_15 : decode cX4_take 15 = .ok (.aload_n 0, 1) := by decide +kernel
theorem dX4_take_16 : decode cX4_take 16 = .ok (.getfield 32, 3) := by decide +kernel
theorem dX4_take_19 : decode cX4_take 19 = .ok (.aload_n 1, 1) := by decide +kernel
theorem dX4_take_20 : decode cX4_take 20 = .ok (.iload_n 3, 1) := by decide +kernel
theorem dX4_take_21 : decode cX4_take 21 = .ok (.iload 4, 2) := by decide +kernel
theorem dX4_take_23 : decode cX4_take 23 = .ok (.invokestatic 217, 3) := by decide +kernel
theorem dX4_take_26 : decode cX4_take 26 = .ok (.iload 5, 2) := by decide +kernel
theorem dX4_take_28 : decode cX4_take 28 = .ok (.ireturn, 1) := by decide +kernel
set_option maxRecDepth 20000 in
theorem tkX4_take : ∀ q ∈ tbX4_take, xOk (Zm false yX4_take.name) RX4 cX4_take 6 (some .int) pT pY q :=
  fa_c (ok_p (xg_load _ _ _) (x_aload_n dX4_take_0 rfl)) <|
  fa_c (ok_p (xg_load _ _ _) (x_iload_n dX4_take_1 rfl)) <|
  fa_c (ok_p (xg_load _ _ _) (x_iload_n dX4_take_2 rfl)) <|
  fa_c (ok_p (xg_load _ _ _) (x_iload dX4_take_3)) <|
  fa_c (ok_c pT_64 pY_64 (x_callV (n := 3) (C := RX3) (T := TX3) (N := 3) rfl rfl kw188 kw189 kw190 kw60 kw191 (by decide +kernel) dX4_take_5)) <|
  fa_c (ok_p (xg_store _ _ _) (x_istore dX4_take_8)) <|
  fa_c (ok_p (xg_load _ _ _) (x_iload dX4_take_10)) <|
  fa_c (ok_p (xg_if _ _ _) (x_if_ne dX4_take_12 (by decide))) <|
  fa_c (ok_p (xg_load _ _ _) (x_aload_n dX4_take_15 rfl)) <|
  fa_c (ok_p (xg_getf _ _ _) (x_getf (C := RX4) (T := TX4) (N := 6) rfl (by decide) inX4 kw154 dX4_take_16)) <|
  fa_c (ok_p (xg_load _ _ _) (x_aload_n dX4_take_19 rfl)) <|
  fa_c (ok_p (xg_load _ _ _) (x_iload_n dX4_take_20 rfl)) <|
  fa_c (ok_p (xg_load _ _ _) (x_iload dX4_take_21)) <|
  fa_c (ok_c pT_105 pY_105 (x_callS (n := 4) rfl kw200 kw201 kw59 kw202 (by decide +kernel) dX4_take_23)) <|
  fa_c (ok_p (xg_load _ _ _) (x_iload dX4_take_26)) <|
  fa_c (ok_r ⟨rfl, dX4_take_28⟩) <|
  fa_n
theorem dX4_readInto_0 : decode cX4_readInto 0 = .ok (.iconst 0, 1) := by decide +kernel
theorem dX4_readInto_1 : decode cX4_readInto 1 = .ok (.istore 4, 2) := by decide +kernel
theorem dX4_readInto_3 : decode cX4_readInto 3 = .ok (.iload 4, 2) := by decide +kernel
theorem dX4_readInto_5 : decode cX4_readInto 5 = .ok (.iload_n 3, 1) := by decide +kernel
theorem dX4_readInto_6 : decode cX4_readInto 6 = .ok (.if_icmp .ge 23, 3) := by decide +kernel
theorem dX4_readInto_9 : decode cX4_readInto 9 = .ok (.aload_n 0, 1) := by decide +kernel
theorem dX4_readInto_10 : decode cX4_readInto 10 = .ok (.iload 4, 2) := by decide +kernel
theorem dX4_readInto_12 : decode cX4_readInto 12 = .ok (.aload_n 1, 1) := by decide +kernel
theorem dX4_readInto_13 : decode cX4_readInto 13 = .ok (.iload_n 2, 1) := by decide +kernel
theorem dX4_readInto_14 : decode cX4_readInto 14 = .ok (.iload 4, 2) := by decide +kernel
theorem dX4_readInto_16 : decode cX4_readInto 16 = .ok (.iadd, 1) := by decide +kernel
theorem dX4_readInto_17 : decode cX4_readInto 17 = .ok (.invokevirtual 211, 3) := by decide +kernel
theorem dX4_readInto_20 : decode cX4_readInto 20 = .ok (.invokestatic 248, 3) := by decide +kernel
theorem dX4_readInto_23 : decode cX4_readInto 23 = .ok (.iinc 4 1, 3) := by decide +kernel
theorem dX4_readInto_26 : decode cX4_readInto 26 = .ok (.goto (-23), 3) := by decide +kernel
theorem dX4_readInto_29 : decode cX4_readInto 29 = .ok (.return_, 1) := by decide +kernel
set_option maxRecDepth 20000 in
theorem tkX4_readInto : ∀ q ∈ tbX4_readInto, xOk (Zm false yX4_readInto.name) RX4 cX4_readInto 5 (none) pT pY q :=
  fa_c (ok_p (xg_st _ _) (x_iconst dX4_readInto_0 rfl)) <|
  fa_c (ok_p (xg_store _ _ _) (x_istore dX4_readInto_1)) <|
  fa_c (ok_p (xg_load _ _ _) (x_iload dX4_readInto_3)) <|
  fa_c (ok_p (xg_load _ _ _) (x_iload_n dX4_readInto_5 rfl)) <|
  fa_c (ok_p (xg_icmp _ _ _) (x_icmp_ge dX4_readInto_6 (by decide))) <|
  fa_c (ok_p (xg_load _ _ _) (x_aload_n dX4_readInto_9 rfl)) <|
  fa_c (ok_p (xg_load _ _ _) (x_iload dX4_readInto_10)) <|
  fa_c (ok_p (xg_load _ _ _) (x_aload_n dX4_readInto_12 rfl)) <|
  fa_c (ok_p (xg_load _ _ _) (x_iload_n dX4_readInto_13 rfl)) <|
  fa_c (ok_p (xg_load _ _ _) (x_iload dX4_readInto_14)) <|
  fa_c (ok_p (xg_st _ _) (x_iadd dX4_readInto_16)) <|
  fa_c (ok_c pT_67 pY_67 (x_callV (n := 1) (C := RX3) (T := TX3) (N := 3) rfl rfl kw203 kw204 kw205 kw60 kw206 (by decide +kernel) dX4_readInto_17)) <|
  fa_c (ok_c pT_120 pY_120 (x_callS (n := 3) rfl kw210 kw211 kw59 kw212 (by decide +kernel) dX4_readInto_20)) <|
  fa_c (ok_p (xg_iinc _ _ _) (x_iinc dX4_readInto_23 rfl)) <|
  fa_c (ok_p (xg_st _ _) (x_goto dX4_readInto_26 (by decide))) <|
  fa_c (ok_r ⟨rfl, dX4_readInto_29⟩) <|
  fa_n
theorem dX4_leastLengthToldAgain_0 : decode cX4_leastLengthToldAgain 0 = .ok (.iconst 1, 1) := by decide +kernel
theorem dX4_leastLengthToldAgain_1 : decode cX4_leastLengthToldAgain 1 = .ok (.istore_n 2, 1) := by decide +kernel
theorem dX4_leastLengthToldAgain_2 : decode cX4_leastLengthToldAgain 2 = .ok (.iload_n 2, 1) := by decide +kernel
theorem dX4_leastLengthToldAgain_3 : decode cX4_leastLengthToldAgain 3 = .ok (.iload_n 1, 1) := by decide +kernel
theorem dX4_leastLengthToldAgain_4 : decode cX4_leastLengthToldAgain 4 = .ok (.if_icmp .ge 20, 3) := by decide +kernel
theorem dX4_leastLengthToldAgain_7 : decode cX4_leastLengthToldAgain 7 = .ok (.aload_n 0, 1) := by decide +kernel
theorem dX4_leastLengthToldAgain_8 : decode cX4_leastLengthToldAgain 8 = .ok (.iload_n 2, 1) := by decide +kernel
theorem dX4_leastLengthToldAgain_9 : decode cX4_leastLengthToldAgain 9 = .ok (.iload_n 1, 1) := by decide +kernel
theorem dX4_leastLengthToldAgain_10 : decode cX4_leastLengthToldAgain 10 = .ok (.invokevirtual 252, 3) := by decide +kernel
theorem dX4_leastLengthToldAgain_13 : decode cX4_leastLengthToldAgain 13 = .ok (.ifCond .eq 5, 3) := by decide +kernel
theorem dX4_leastLengthToldAgain_16 : decode cX4_leastLengthToldAgain 16 = .ok (.iload_n 2, 1) := by decide +kernel
theorem dX4_leastLengthToldAgain_17 : decode cX4_leastLengthToldAgain 17 = .ok (.ireturn, 1) := by decide +kernel
theorem dX4_leastLengthToldAgain_18 : decode cX4_leastLengthToldAgain 18 = .ok (.iinc 2 1, 3) := by decide +kernel
theorem dX4_leastLengthToldAgain_21 : decode cX4_leastLengthToldAgain 21 = .ok (.goto (-19), 3) := by decide +kernel
theorem dX4_leastLengthToldAgain_24 : decode cX4_leastLengthToldAgain 24 = .ok (.iload_n 1, 1) := by decide +kernel
theorem dX4_leastLengthToldAgain_25 : decode cX4_leastLengthToldAgain 25 = .ok (.ireturn, 1) := by decide +kernel
set_option maxRecDepth 20000 in
theorem tkX4_leastLengthToldAgain : ∀ q ∈ tbX4_leastLengthToldAgain, xOk (Zm false yX4_leastLengthToldAgain.name) RX4 cX4_leastLengthToldAgain 3 (some .int) pT pY q :=
  fa_c (ok_p (xg_st _ _) (x_iconst dX4_leastLengthToldAgain_0 rfl)) <|
  fa_c (ok_p (xg_store _ _ _) (x_istore_n dX4_leastLengthToldAgain_1 rfl)) <|
  fa_c (ok_p (xg_load _ _ _) (x_iload_n dX4_leastLengthToldAgain_2 rfl)) <|
  fa_c (ok_p (xg_load _ _ _) (x_iload_n dX4_leastLengthToldAgain_3 rfl)) <|
  fa_c (ok_p (xg_icmp _ _ _) (x_icmp_ge dX4_leastLengthToldAgain_4 (by decide))) <|
  fa_c (ok_p (xg_load _ _ _) (x_aload_n dX4_leastLengthToldAgain_7 rfl)) <|
  fa_c (ok_p (xg_load _ _ _) (x_iload_n dX4_leastLengthToldAgain_8 rfl)) <|
  fa_c (ok_p (xg_load _ _ _) (x_iload_n dX4_leastLengthToldAgain_9 rfl)) <|
  fa_c (ok_c pT_107 pY_107 (x_callV (n := 2) (C := RX4) (T := TX4) (N := 6) rfl rfl kw510 kw512 kw18 kw59 kw513 (by decide +kernel) dX4_leastLengthToldAgain_10)) <|
  fa_c (ok_p (xg_if _ _ _) (x_if_eq dX4_leastLengthToldAgain_13 (by decide))) <|
  fa_c (ok_p (xg_load _ _ _) (x_iload_n dX4_leastLengthToldAgain_16 rfl)) <|
  fa_c (ok_r ⟨rfl, dX4_leastLengthToldAgain_17⟩) <|
  fa_c (ok_p (xg_iinc _ _ _) (x_iinc dX4_leastLengthToldAgain_18 rfl)) <|
  fa_c (ok_p (xg_st _ _) (x_goto dX4_leastLengthToldAgain_21 (by decide))) <|
  fa_c (ok_p (xg_load _ _ _) (x_iload_n dX4_leastLengthToldAgain_24 rfl)) <|
  fa_c (ok_r ⟨rfl, dX4_leastLengthToldAgain_25⟩) <|
  fa_n
theorem dX4_isToldAgain_0 : decode cX4_isToldAgain 0 = .ok (.iload_n 1, 1) := by decide +kernel
theorem dX4_isToldAgain_1 : decode cX4_isToldAgain 1 = .ok (.istore_n 3, 1) := by decide +kernel
theorem dX4_isToldAgain_2 : decode cX4_isToldAgain 2 = .ok (.iload_n 3, 1) := by decide +kernel
theorem dX4_isToldAgain_3 : decode cX4_isToldAgain 3 = .ok (.iload_n 2, 1) := by decide +kernel
theorem dX4_isToldAgain_4 : decode cX4_isToldAgain 4 = .ok (.if_icmp .ge 32, 3) := by decide +kernel
theorem dX4_isToldAgain_7 : decode cX4_isToldAgain 7 = .ok (.aload_n 0, 1) := by decide +kernel
theorem dX4_isToldAgain_8 : decode cX4_isToldAgain 8 = .ok (.getfield 32, 3) := by decide +kernel
theorem dX4_isToldAgain_11 : decode cX4_isToldAgain 11 = .ok (.iload_n 3, 1) := by decide +kernel
theorem dX4_isToldAgain_12 : decode cX4_isToldAgain 12 = .ok (.invokestatic 145, 3) := by decide +kernel
theorem dX4_isToldAgain_15 : decode cX4_isToldAgain 15 = .ok (.aload_n 0, 1) := by decide +kernel
theorem dX4_isToldAgain_16 : decode cX4_isToldAgain 16 = .ok (.getfield 32, 3) := by decide +kernel
theorem dX4_isToldAgain_19 : decode cX4_isToldAgain 19 = .ok (.iload_n 3, 1) := by decide +kernel
theorem dX4_isToldAgain_20 : decode cX4_isToldAgain 20 = .ok (.iload_n 1, 1) := by decide +kernel
theorem dX4_isToldAgain_21 : decode cX4_isToldAgain 21 = .ok (.isub, 1) := by decide +kernel
theorem dX4_isToldAgain_22 : decode cX4_isToldAgain 22 = .ok (.invokestatic 145, 3) := by decide +kernel
theorem dX4_isToldAgain_25 : decode cX4_isToldAgain 25 = .ok (.if_icmp .eq 5, 3) := by decide +kernel
theorem dX4_isToldAgain_28 : decode cX4_isToldAgain 28 = .ok (.iconst 0, 1) := by decide +kernel
theorem dX4_isToldAgain_29 : decode cX4_isToldAgain 29 = .ok (.ireturn, 1) := by decide +kernel
theorem dX4_isToldAgain_30 : decode cX4_isToldAgain 30 = .ok (.iinc 3 1, 3) := by decide +kernel
theorem dX4_isToldAgain_33 : decode cX4_isToldAgain 33 = .ok (.goto (-31), 3) := by decide +kernel
theorem dX4_isToldAgain_36 : decode cX4_isToldAgain 36 = .ok (.iconst 1, 1) := by decide +kernel
theorem dX4_isToldAgain_37 : decode cX4_isToldAgain 37 = .ok (.ireturn, 1) := by decide +kernel
set_option maxRecDepth 20000 in
theorem tkX4_isToldAgain : ∀ q ∈ tbX4_isToldAgain, xOk (Zm false yX4_isToldAgain.name) RX4 cX4_isToldAgain 4 (some .boolean) pT pY q :=
  fa_c (ok_p (xg_load _ _ _) (x_iload_n dX4_isToldAgain_0 rfl)) <|
  fa_c (ok_p (xg_store _ _ _) (x_istore_n dX4_isToldAgain_1 rfl)) <|
  fa_c (ok_p (xg_load _ _ _) (x_iload_n dX4_isToldAgain_2 rfl)) <|
  fa_c (ok_p (xg_load _ _ _) (x_iload_n dX4_isToldAgain_3 rfl)) <|
  fa_c (ok_p (xg_icmp _ _ _) (x_icmp_ge dX4_isToldAgain_4 (by decide))) <|
  fa_c (ok_p (xg_load _ _ _) (x_aload_n dX4_isToldAgain_7 rfl)) <|
  fa_c (ok_p (xg_getf _ _ _) (x_getf (C := RX4) (T := TX4) (N := 6) rfl (by decide) inX4 kw154 dX4_isToldAgain_8)) <|
  fa_c (ok_p (xg_load _ _ _) (x_iload_n dX4_isToldAgain_11 rfl)) <|
  fa_c (ok_c pT_119 pY_119 (x_callS (n := 2) rfl kw409 kw208 kw59 kw209 (by decide +kernel) dX4_isToldAgain_12)) <|
  fa_c (ok_p (xg_load _ _ _) (x_aload_n dX4_isToldAgain_15 rfl)) <|
  fa_c (ok_p (xg_getf _ _ _) (x_getf (C := RX4) (T := TX4) (N := 6) rfl (by decide) inX4 kw154 dX4_isToldAgain_16)) <|
  fa_c (ok_p (xg_load _ _ _) (x_iload_n dX4_isToldAgain_19 rfl)) <|
  fa_c (ok_p (xg_load _ _ _) (x_iload_n dX4_isToldAgain_20 rfl)) <|
  fa_c (ok_p (xg_st _ _) (x_isub dX4_isToldAgain_21)) <|
  fa_c (ok_c pT_119 pY_119 (x_callS (n := 2) rfl kw409 kw208 kw59 kw209 (by decide +kernel) dX4_isToldAgain_22)) <|
  fa_c (ok_p (xg_icmp _ _ _) (x_icmp_eq dX4_isToldAgain_25 (by decide))) <|
  fa_c (ok_p (xg_st _ _) (x_iconst dX4_isToldAgain_28 rfl)) <|
  fa_c (ok_r ⟨rfl, dX4_isToldAgain_29⟩) <|
  fa_c (ok_p (xg_iinc _ _ _) (x_iinc dX4_isToldAgain_30 rfl)) <|
  fa_c (ok_p (xg_st _ _) (x_goto dX4_isToldAgain_33 (by decide))) <|
  fa_c (ok_p (xg_st _ _) (x_iconst dX4_isToldAgain_36 rfl)) <|
  fa_c (ok_r ⟨rfl, dX4_isToldAgain_37⟩) <|
  fa_n
theorem dX4_leaveInTrace_0 : decode cX4_leaveInTrace 0 = .ok (.aload_n 0, 1) := by decide +kernel
theorem dX4_leaveInTrace_1 : decode cX4_leaveInTrace 1 = .ok (.bipush 31, 2) := by decide +kernel
theorem dX4_leaveInTrace_3 : decode cX4_leaveInTrace 3 = .ok (.aload_n 0, 1) := by decide +kernel
theorem dX4_leaveInTrace_4 : decode cX4_leaveInTrace 4 = .ok (.getfield 236, 3) := by decide +kernel
theorem dX4_leaveInTrace_7 : decode cX4_leaveInTrace 7 = .ok (.imul, 1) := by decide +kernel
theorem dX4_leaveInTrace_8 : decode cX4_leaveInTrace 8 = .ok (.iload_n 1, 1) := by decide +kernel
theorem dX4_leaveInTrace_9 : decode cX4_leaveInTrace 9 = .ok (.iadd, 1) := by decide +kernel
theorem dX4_leaveInTrace_10 : decode cX4_leaveInTrace 10 = .ok (.putfield 236, 3) := by decide +kernel
theorem dX4_leaveInTrace_13 : decode cX4_leaveInTrace 13 = .ok (.return_, 1) := by decide +kernel
set_option maxRecDepth 20000 in
theorem tkX4_leaveInTrace : ∀ q ∈ tbX4_leaveInTrace, xOk (Zm false yX4_leaveInTrace.name) RX4 cX4_leaveInTrace 2 (none) pT pY q :=
  fa_c (ok_p (xg_load _ _ _) (x_aload_n dX4_leaveInTrace_0 rfl)) <|
  fa_c (ok_p (xg_st _ _) (x_bipush dX4_leaveInTrace_1 rfl)) <|
  fa_c (ok_p (xg_load _ _ _) (x_aload_n dX4_leaveInTrace_3 rfl)) <|
  fa_c (ok_p (xg_getf _ _ _) (x_getf (C := RX4) (T := TX4) (N := 6) rfl (by decide) inX4 kw155 dX4_leaveInTrace_4)) <|
  fa_c (ok_p (xg_st _ _) (x_imul dX4_leaveInTrace_7)) <|
  fa_c (ok_p (xg_load _ _ _) (x_iload_n dX4_leaveInTrace_8 rfl)) <|
  fa_c (ok_p (xg_st _ _) (x_iadd dX4_leaveInTrace_9)) <|
  fa_c (ok_p (xg_putf _ _ _ _) (x_putfof (C := RX4) (T := TX4) (N := 6) tyX4 tyX4_ok nmX4 rfl (by decide) inX4 kw155 dX4_leaveInTrace_10 (tyX4_ok 4 (by decide)) (fun _ _ _ _ _ _ => Or.inl rfl))) <|
  fa_c (ok_r ⟨rfl, dX4_leaveInTrace_13⟩) <|
  fa_n
theorem dX4_plainBody_0 : decode cX4_plainBody 0 = .ok (.aload_n 0, 1) := by decide +kernel
theorem dX4_plainBody_1 : decode cX4_plainBody 1 = .ok (.iconst 1, 1) := by decide +kernel
theorem dX4_plainBody_2 : decode cX4_plainBody 2 = .ok (.invokevirtual 255, 3) := by decide +kernel
theorem dX4_plainBody_5 : decode cX4_plainBody 5 = .ok (.aload_n 0, 1) := by decide +kernel
theorem dX4_plainBody_6 : decode cX4_plainBody 6 = .ok (.getfield 21, 3) := by decide +kernel
theorem dX4_plainBody_9 : decode cX4_plainBody 9 = .ok (.iload_n 1, 1) := by decide +kernel
theorem dX4_plainBody_10 : decode cX4_plainBody 10 = .ok (.invokevirtual 80, 3) := by decide +kernel
theorem dX4_plainBody_13 : decode cX4_plainBody 13 = .ok (.ireturn, 1) := by decide +kernel
set_option maxRecDepth 20000 in
theorem tkX4_plainBody : ∀ q ∈ tbX4_plainBody, xOk (Zm false yX4_plainBody.name) RX4 cX4_plainBody 2 (some .int) pT pY q :=
  fa_c (ok_p (xg_load _ _ _) (x_aload_n dX4_plainBody_0 rfl)) <|
  fa_c (ok_p (xg_st _ _) (x_iconst dX4_plainBody_1 rfl)) <|
  fa_c (ok_c pT_108 pY_108 (x_callV (n := 1) (C := RX4) (T := TX4) (N := 6) rfl rfl kw620 kw622 kw21 kw59 kw623 (by decide +kernel) dX4_plainBody_2)) <|
  fa_c (ok_p (xg_load _ _ _) (x_aload_n dX4_plainBody_5 rfl)) <|
  fa_c (ok_p (xg_getf _ _ _) (x_getf (C := RX4) (T := TX4) (N := 6) rfl (by decide) inX4 kw152 dX4_plainBody_6)) <|
  fa_c (ok_p (xg_load _ _ _) (x_iload_n dX4_plainBody_9 rfl)) <|
  fa_c (ok_c pT_21 pY_21 (x_callV (n := 1) (C := RX1) (T := TX1) (N := 10) rfl rfl kw287 kw288 kw289 kw61 kw290 (by decide +kernel) dX4_plainBody_10)) <|
  fa_c (ok_r ⟨rfl, dX4_plainBody_13⟩) <|
  fa_n
theorem dX4_deepBody_0 : decode cX4_deepBody 0 = .ok (.aload_n 0, 1) := by decide +kernel
theorem dX4_deepBody_1 : decode cX4_deepBody 1 = .ok (.iconst 2, 1) := by decide +kernel
theorem dX4_deepBody_2 : decode cX4_deepBody 2 = .ok (.invokevirtual 255, 3) := by decide +kernel
theorem dX4_deepBody_5 : decode cX4_deepBody 5 = .ok (.aload_n 0, 1) := by decide +kernel
theorem dX4_deepBody_6 : decode cX4_deepBody 6 = .ok (.iload_n 1, 1) := by decide +kernel
theorem dX4_deepBody_7 : decode cX4_deepBody 7 = .ok (.invokevirtual 227, 3) := by decide +kernel
theorem dX4_deepBody_10 : decode cX4_deepBody 10 = .ok (.bipush 100, 2) := by decide +kernel
theorem dX4_deepBody_12 : decode cX4_deepBody 12 = .ok (.iadd, 1) := by decide +kernel
theorem dX4_deepBody_13 : decode cX4_deepBody 13 = .ok (.ireturn, 1) := by decide +kernel
set_option maxRecDepth 20000 in
theorem tkX4_deepBody : ∀ q ∈ tbX4_deepBody, xOk (Zm false yX4_deepBody.name) RX4 cX4_deepBody 2 (some .int) pT pY q :=
  fa_c (ok_p (xg_load _ _ _) (x_aload_n dX4_deepBody_0 rfl)) <|
  fa_c (ok_p (xg_st _ _) (x_iconst dX4_deepBody_1 rfl)) <|
  fa_c (ok_c pT_108 pY_108 (x_callV (n := 1) (C := RX4) (T := TX4) (N := 6) rfl rfl kw620 kw622 kw21 kw59 kw623 (by decide +kernel) dX4_deepBody_2)) <|
  fa_c (ok_p (xg_load _ _ _) (x_aload_n dX4_deepBody_5 rfl)) <|
  fa_c (ok_p (xg_load _ _ _) (x_iload_n dX4_deepBody_6 rfl)) <|
  fa_c (ok_c pT_109 pY_109 (x_callV (n := 1) (C := RX4) (T := TX4) (N := 6) rfl rfl kw628 kw630 kw23 kw59 kw631 (by decide +kernel) dX4_deepBody_7)) <|
  fa_c (ok_p (xg_st _ _) (x_bipush dX4_deepBody_10 rfl)) <|
  fa_c (ok_p (xg_st _ _) (x_iadd dX4_deepBody_12)) <|
  fa_c (ok_r ⟨rfl, dX4_deepBody_13⟩) <|
  fa_n
theorem dX4_grandBody_0 : decode cX4_grandBody 0 = .ok (.aload_n 0, 1) := by decide +kernel
theorem dX4_grandBody_1 : decode cX4_grandBody 1 = .ok (.iconst 3, 1) := by decide +kernel
theorem dX4_grandBody_2 : decode cX4_grandBody 2 = .ok (.invokevirtual 255, 3) := by decide +kernel
theorem dX4_grandBody_5 : decode cX4_grandBody 5 = .ok (.aload_n 0, 1) := by decide +kernel
theorem dX4_grandBody_6 : decode cX4_grandBody 6 = .ok (.iload_n 1, 1) := by decide +kernel
theorem dX4_grandBody_7 : decode cX4_grandBody 7 = .ok (.invokevirtual 224, 3) := by decide +kernel
theorem dX4_grandBody_10 : decode cX4_grandBody 10 = .ok (.istore_n 2, 1) := by decide +kernel
theorem dX4_grandBody_11 : decode cX4_grandBody 11 = .ok (.iload_n 2, 1) := by decide +kernel
theorem dX4_grandBody_12 : decode cX4_grandBody 12 = .ok (.aload_n 0, 1) := by decide +kernel
theorem dX4_grandBody_13 : decode cX4_grandBody 13 = .ok (.iload_n 1, 1) := by decide +kernel
theorem dX4_grandBody_14 : decode cX4_grandBody 14 = .ok (.invokevirtual 227, 3) := by decide +kernel
theorem dX4_grandBody_17 : decode cX4_grandBody 17 = .ok (.iadd, 1) := by decide +kernel
theorem dX4_grandBody_18 : decode cX4_grandBody 18 = .ok (.ireturn, 1) := by decide +kernel
set_option maxRecDepth 20000 in
theorem tkX4_grandBody : ∀ q ∈ tbX4_grandBody, xOk (Zm false yX4_grandBody.name) RX4 cX4_grandBody 3 (some .int) pT pY q :=
  fa_c (ok_p (xg_load _ _ _) (x_aload_n dX4_grandBody_0 rfl)) <|
  fa_c (ok_p (xg_st _ _) (x_iconst dX4_grandBody_1 rfl)) <|
  fa_c (ok_c pT_108 pY_108 (x_callV (n := 1) (C := RX4) (T := TX4) (N := 6) rfl rfl kw620 kw622 kw21 kw59 kw623 (by decide +kernel) dX4_grandBody_2)) <|
  fa_c (ok_p (xg_load _ _ _) (x_aload_n dX4_grandBody_5 rfl)) <|
  fa_c (ok_p (xg_load _ _ _) (x_iload_n dX4_grandBody_6 rfl)) <|
  fa_c (ok_c pT_110 pY_110 (x_callV (n := 1) (C := RX4) (T := TX4) (N := 6) rfl rfl kw624 kw626 kw22 kw59 kw627 (by decide +kernel) dX4_grandBody_7)) <|
  fa_c (ok_p (xg_store _ _ _) (x_istore_n dX4_grandBody_10 rfl)) <|
  fa_c (ok_p (xg_load _ _ _) (x_iload_n dX4_grandBody_11 rfl)) <|
  fa_c (ok_p (xg_load _ _ _) (x_aload_n dX4_grandBody_12 rfl)) <|
  fa_c (ok_p (xg_load _ _ _) (x_iload_n dX4_grandBody_13 rfl)) <|
  fa_c (ok_c pT_109 pY_109 (x_callV (n := 1) (C := RX4) (T := TX4) (N := 6) rfl rfl kw628 kw630 kw23 kw59 kw631 (by decide +kernel) dX4_grandBody_14)) <|
  fa_c (ok_p (xg_st _ _) (x_iadd dX4_grandBody_17)) <|
  fa_c (ok_r ⟨rfl, dX4_grandBody_18⟩) <|
  fa_n
theorem dX4_lentGreetingBody_0 : decode cX4_lentGreetingBody 0 = .ok (.aload_n 0, 1) := by decide +kernel
theorem dX4_lentGreetingBody_1 : decode cX4_lentGreetingBody 1 = .ok (.iconst 4, 1) := by decide +kernel
theorem dX4_lentGreetingBody_2 : decode cX4_lentGreetingBody 2 = .ok (.invokevirtual 255, 3) := by decide +kernel
theorem dX4_lentGreetingBody_5 : decode cX4_lentGreetingBody 5 = .ok (.iload_n 1, 1) := by decide +kernel
theorem dX4_lentGreetingBody_6 : decode cX4_lentGreetingBody 6 = .ok (.ireturn, 1) := by decide +kernel
set_option maxRecDepth 20000 in
theorem tkX4_lentGreetingBody : ∀ q ∈ tbX4_lentGreetingBody, xOk (Zm false yX4_lentGreetingBody.name) RX4 cX4_lentGreetingBody 2 (some .int) pT pY q :=
  fa_c (ok_p (xg_load _ _ _) (x_aload_n dX4_lentGreetingBody_0 rfl)) <|
  fa_c (ok_p (xg_st _ _) (x_iconst dX4_lentGreetingBody_1 rfl)) <|
  fa_c (ok_c pT_108 pY_108 (x_callV (n := 1) (C := RX4) (T := TX4) (N := 6) rfl rfl kw620 kw622 kw21 kw59 kw623 (by decide +kernel) dX4_lentGreetingBody_2)) <|
  fa_c (ok_p (xg_load _ _ _) (x_iload_n dX4_lentGreetingBody_5 rfl)) <|
  fa_c (ok_r ⟨rfl, dX4_lentGreetingBody_6⟩) <|
  fa_n
theorem dX4_ownGreetingBody_0 : decode cX4_ownGreetingBody 0 = .ok (.aload_n 0, 1) := by decide +kernel
theorem dX4_ownGreetingBody_1 : decode cX4_ownGreetingBody 1 = .ok (.iconst 5, 1) := by decide +kernel
theorem dX4_ownGreetingBody_2 : decode cX4_ownGreetingBody 2 = .ok (.invokevirtual 255, 3) := by decide +kernel
theorem dX4_ownGreetingBody_5 : decode cX4_ownGreetingBody 5 = .ok (.bipush 90, 2) := by decide +kernel
theorem dX4_ownGreetingBody_7 : decode cX4_ownGreetingBody 7 = .ok (.ireturn, 1) := by decide +kernel
set_option maxRecDepth 20000 in
theorem tkX4_ownGreetingBody : ∀ q ∈ tbX4_ownGreetingBody, xOk (Zm false yX4_ownGreetingBody.name) RX4 cX4_ownGreetingBody 1 (some .int) pT pY q :=
  fa_c (ok_p (xg_load _ _ _) (x_aload_n dX4_ownGreetingBody_0 rfl)) <|
  fa_c (ok_p (xg_st _ _) (x_iconst dX4_ownGreetingBody_1 rfl)) <|
  fa_c (ok_c pT_108 pY_108 (x_callV (n := 1) (C := RX4) (T := TX4) (N := 6) rfl rfl kw620 kw622 kw21 kw59 kw623 (by decide +kernel) dX4_ownGreetingBody_2)) <|
  fa_c (ok_p (xg_st _ _) (x_bipush dX4_ownGreetingBody_5 rfl)) <|
  fa_c (ok_r ⟨rfl, dX4_ownGreetingBody_7⟩) <|
  fa_n
theorem dX4_within_0 : decode cX4_within 0 = .ok (.iload_n 0, 1) := by decide +kernel
theorem dX4_within_1 : decode cX4_within 1 = .ok (.iload_n 1, 1) := by decide +kernel
theorem dX4_within_2 : decode cX4_within 2 = .ok (.if_icmp .lt 12, 3) := by decide +kernel
theorem dX4_within_5 : decode cX4_within 5 = .ok (.iload_n 0, 1) := by decide +kernel
theorem dX4_within_6 : decode cX4_within 6 = .ok (.iload_n 2, 1) := by decide +kernel
theorem dX4_within_7 : decode cX4_within 7 = .ok (.if_icmp .gt 7, 3) := by decide +kernel
theorem dX4_within_10 : decode cX4_within 10 = .ok (.iconst 1, 1) := by decide +kernel
theorem dX4_within_11 : decode cX4_within 11 = .ok (.goto 4, 3) := by decide +kernel
theorem dX4_within_14 : decode cX4_within 14 = .ok (.iconst 0, 1) := by decide +kernel
theorem dX4_within_15 : decode cX4_within 15 = .ok (.ireturn, 1) := by decide +kernel
set_option maxRecDepth 20000 in
theorem tkX4_within : ∀ q ∈ tbX4_within, xOk (Zm false yX4_within.name) RX4 cX4_within 3 (some .boolean) pT pY q :=
  fa_c (ok_p (xg_load _ _ _) (x_iload_n dX4_within_0 rfl)) <|
  fa_c (ok_p (xg_load _ _ _) (x_iload_n dX4_within_1 rfl)) <|
  fa_c (ok_p (xg_icmp _ _ _) (x_icmp_lt dX4_within_2 (by decide))) <|
  fa_c (ok_p (xg_load _ _ _) (x_iload_n dX4_within_5 rfl)) <|
  fa_c (ok_p (xg_load _ _ _) (x_iload_n dX4_within_6 rfl)) <|
  fa_c (ok_p (xg_icmp _ _ _) (x_icmp_gt dX4_within_7 (by decide))) <|
  fa_c (ok_p (xg_st _ _) (x_iconst dX4_within_10 rfl)) <|
  fa_c (ok_p (xg_st _ _) (x_goto dX4_within_11 (by decide))) <|
  fa_c (ok_p (xg_st _ _) (x_iconst dX4_within_14 rfl)) <|
  fa_c (ok_r ⟨rfl, dX4_within_15⟩) <|
  fa_n
theorem dX4_isLane_0 : decode cX4_isLane 0 = .ok (.iload_n 0, 1) := by decide +kernel
theorem dX4_isLane_1 : decode cX4_isLane 1 = .ok (.iconst 0, 1) := by decide +kernel
theorem dX4_isLane_2 : decode cX4_isLane 2 = .ok (.iconst 2, 1) := by decide +kernel
theorem dX4_isLane_3 : decode cX4_isLane 3 = .ok (.invokestatic 141, 3) := by decide +kernel
theorem dX4_isLane_6 : decode cX4_isLane 6 = .ok (.ireturn, 1) := by decide +kernel
set_option maxRecDepth 20000 in
theorem tkX4_isLane : ∀ q ∈ tbX4_isLane, xOk (Zm false yX4_isLane.name) RX4 cX4_isLane 1 (some .boolean) pT pY q :=
  fa_c (ok_p (xg_load _ _ _) (x_iload_n dX4_isLane_0 rfl)) <|
  fa_c (ok_p (xg_st _ _) (x_iconst dX4_isLane_1 rfl)) <|
  fa_c (ok_p (xg_st _ _) (x_iconst dX4_isLane_2 rfl)) <|
  fa_c (ok_c pT_114 pY_114 (x_callS (n := 3) rfl kw181 kw182 kw59 kw183 (by decide +kernel) dX4_isLane_3)) <|
  fa_c (ok_r ⟨rfl, dX4_isLane_6⟩) <|
  fa_n
theorem dX4_isStep_0 : decode cX4_isStep 0 = .ok (.iload_n 0, 1) := by decide +kernel
theorem dX4_isStep_1 : decode cX4_isStep 1 = .ok (.iconst 0, 1) := by decide +kernel
theorem dX4_isStep_2 : decode cX4_isStep 2 = .ok (.iconst 3, 1) := by decide +kernel
theorem dX4_isStep_3 : decode cX4_isStep 3 = .ok (.invokestatic 141, 3) := by decide +kernel
theorem dX4_isStep_6 : decode cX4_isStep 6 = .ok (.ireturn, 1) := by decide +kernel
set_option maxRecDepth 20000 in
theorem tkX4_isStep : ∀ q ∈ tbX4_isStep, xOk (Zm false yX4_isStep.name) RX4 cX4_isStep 1 (some .boolean) pT pY q :=
  fa_c (ok_p (xg_load _ _ _) (x_iload_n dX4_isStep_0 rfl)) <|
  fa_c (ok_p (xg_st _ _) (x_iconst dX4_isStep_1 rfl)) <|
  fa_c (ok_p (xg_st _ _) (x_iconst dX4_isStep_2 rfl)) <|
  fa_c (ok_c pT_114 pY_114 (x_callS (n := 3) rfl kw181 kw182 kw59 kw183 (by decide +kernel) dX4_isStep_3)) <|
  fa_c (ok_r ⟨rfl, dX4_isStep_6⟩) <|
  fa_n
theorem dX4_isDigit_0 : decode cX4_isDigit 0 = .ok (.iload_n 0, 1) := by decide +kernel
theorem dX4_isDigit_1 : decode cX4_isDigit 1 = .ok (.iconst 0, 1) := by decide +kernel
theorem dX4_isDigit_2 : decode cX4_isDigit 2 = .ok (.bipush 9, 2) := by decide +kernel
theorem dX4_isDigit_4 : decode cX4_isDigit 4 = .ok (.invokestatic 141, 3) := by decide +kernel
theorem dX4_isDigit_7 : decode cX4_isDigit 7 = .ok (.ireturn, 1) := by decide +kernel
set_option maxRecDepth 20000 in
theorem tkX4_isDigit : ∀ q ∈ tbX4_isDigit, xOk (Zm false yX4_isDigit.name) RX4 cX4_isDigit 1 (some .boolean) pT pY q :=
  fa_c (ok_p (xg_load _ _ _) (x_iload_n dX4_isDigit_0 rfl)) <|
  fa_c (ok_p (xg_st _ _) (x_iconst dX4_isDigit_1 rfl)) <|
  fa_c (ok_p (xg_st _ _) (x_bipush dX4_isDigit_2 rfl)) <|
  fa_c (ok_c pT_114 pY_114 (x_callS (n := 3) rfl kw181 kw182 kw59 kw183 (by decide +kernel) dX4_isDigit_4)) <|
  fa_c (ok_r ⟨rfl, dX4_isDigit_7⟩) <|
  fa_n
theorem dX4_greatestDivisor_0 : decode cX4_greatestDivisor 0 = .ok (.iload_n 1, 1) := by decide +kernel
theorem dX4_greatestDivisor_1 : decode cX4_greatestDivisor 1 = .ok (.istore_n 2, 1) := by decide +kernel
theorem dX4_greatestDivisor_2 : decode cX4_greatestDivisor 2 = .ok (.iload_n 2, 1) := by decide +kernel
theorem dX4_greatestDivisor_3 : decode cX4_greatestDivisor 3 = .ok (.ifCond .le 23, 3) := by decide +kernel
theorem dX4_greatestDivisor_6 : decode cX4_greatestDivisor 6 = .ok (.iload_n 0, 1) := by decide +kernel
theorem dX4_greatestDivisor_7 : decode cX4_greatestDivisor 7 = .ok (.iload_n 2, 1) := by decide +kernel
theorem dX4_greatestDivisor_8 : decode cX4_greatestDivisor 8 = .ok (.irem, 1) := by decide +kernel
theorem dX4_greatestDivisor_9 : decode cX4_greatestDivisor 9 = .ok (.ifCond .ne 11, 3) := by decide +kernel
theorem dX4_greatestDivisor_12 : decode cX4_greatestDivisor 12 = .ok (.iload_n 1, 1) := by decide +kernel
theorem dX4_greatestDivisor_13 : decode cX4_greatestDivisor 13 = .ok (.iload_n 2, 1) := by decide +kernel
theorem dX4_greatestDivisor_14 : decode cX4_greatestDivisor 14 = .ok (.irem, 1) := by decide +kernel
theorem dX4_greatestDivisor_15 : decode cX4_greatestDivisor 15 = .ok (.ifCond .ne 5, 3) := by decide +kernel
theorem dX4_greatestDivisor_18 : decode cX4_greatestDivisor 18 = .ok (.iload_n 2, 1) := by decide +kernel
theorem dX4_greatestDivisor_19 : decode cX4_greatestDivisor 19 = .ok (.ireturn, 1) := by decide +kernel
theorem dX4_greatestDivisor_20 : decode cX4_greatestDivisor 20 = .ok (.iinc 2 (-1), 3) := by decide +kernel
theorem dX4_greatestDivisor_23 : decode cX4_greatestDivisor 23 = .ok (.goto (-21), 3) := by decide +kernel
theorem dX4_greatestDivisor_26 : decode cX4_greatestDivisor 26 = .ok (.iconst 0, 1) := by decide +kernel
theorem dX4_greatestDivisor_27 : decode cX4_greatestDivisor 27 = .ok (.ireturn, 1) := by decide +kernel
set_option maxRecDepth 20000 in
theorem tkX4_greatestDivisor : ∀ q ∈ tbX4_greatestDivisor, xOk (Zm false yX4_greatestDivisor.name) RX4 cX4_greatestDivisor 3 (some .int) pT pY q :=
  fa_c (ok_p (xg_load _ _ _) (x_iload_n dX4_greatestDivisor_0 rfl)) <|
  fa_c (ok_p (xg_store _ _ _) (x_istore_n dX4_greatestDivisor_1 rfl)) <|
  fa_c (ok_p (xg_load _ _ _) (x_iload_n dX4_greatestDivisor_2 rfl)) <|
  fa_c (ok_p (xg_if _ _ _) (x_if_le dX4_greatestDivisor_3 (by decide))) <|
  fa_c (ok_p (xg_load _ _ _) (x_iload_n dX4_greatestDivisor_6 rfl)) <|
  fa_c (ok_p (xg_load _ _ _) (x_iload_n dX4_greatestDivisor_7 rfl)) <|
  fa_c (ok_p (xg_st _ _) (x_irem dX4_greatestDivisor_8)) <|
  fa_c (ok_p (xg_if _ _ _) (x_if_ne dX4_greatestDivisor_9 (by decide))) <|
  fa_c (ok_p (xg_load _ _ _) (x_iload_n dX4_greatestDivisor_12 rfl)) <|
  fa_c (ok_p (xg_load _ _ _) (x_iload_n dX4_greatestDivisor_13 rfl)) <|
  fa_c (ok_p (xg_st _ _) (x_irem dX4_greatestDivisor_14)) <|
  fa_c (ok_p (xg_if _ _ _) (x_if_ne dX4_greatestDivisor_15 (by decide))) <|
  fa_c (ok_p (xg_load _ _ _) (x_iload_n dX4_greatestDivisor_18 rfl)) <|
  fa_c (ok_r ⟨rfl, dX4_greatestDivisor_19⟩) <|
  fa_c (ok_p (xg_iinc _ _ _) (x_iinc dX4_greatestDivisor_20 rfl)) <|
  fa_c (ok_p (xg_st _ _) (x_goto dX4_greatestDivisor_23 (by decide))) <|
  fa_c (ok_p (xg_st _ _) (x_iconst dX4_greatestDivisor_26 rfl)) <|
  fa_c (ok_r ⟨rfl, dX4_greatestDivisor_27⟩) <|
  fa_n
theorem dX4_numberAt_0 : decode cX4_numberAt 0 = .ok (.iload_n 1, 1) := by decide +kernel
theorem dX4_numberAt_1 : decode cX4_numberAt 1 = .ok (.ifCond .lt 15, 3) := by decide +kernel
theorem dX4_numberAt_4 : decode cX4_numberAt 4 = .ok (.iload_n 1, 1) := by decide +kernel
theorem dX4_numberAt_5 : decode cX4_numberAt 5 = .ok (.aload_n 0, 1) := by decide +kernel
theorem dX4_numberAt_6 : decode cX4_numberAt 6 = .ok (.arraylength, 1) := by decide +kernel
theorem dX4_numberAt_7 : decode cX4_numberAt 7 = .ok (.if_icmp .ge 9, 3) := by decide +kernel
theorem dX4_numberAt_10 : decode cX4_numberAt 10 = .ok (.aload_n 0, 1) := by decide +kernel
theorem dX4_numberAt_11 : decode cX4_numberAt 11 = .ok (.iload_n 1, 1) := by decide +kernel
theorem dX4_numberAt_12 : decode cX4_numberAt 12 = .ok (.iaload, 1) := by decide +kernel
theorem dX4_numberAt_13 : decode cX4_numberAt 13 = .ok (.goto 4, 3) := by decide +kernel
theorem dX4_numberAt_16 : decode cX4_numberAt 16 = .ok (.iconst 0, 1) := by decide +kernel
theorem dX4_numberAt_17 : decode cX4_numberAt 17 = .ok (.ireturn, 1) := by decide +kernel
set_option maxRecDepth 20000 in
theorem tkX4_numberAt : ∀ q ∈ tbX4_numberAt, xOk (Zm false yX4_numberAt.name) RX4 cX4_numberAt 2 (some .int) pT pY q :=
  fa_c (ok_p (xg_load _ _ _) (x_iload_n dX4_numberAt_0 rfl)) <|
  fa_c (ok_p (xg_if _ _ _) (x_if_lt dX4_numberAt_1 (by decide))) <|
  fa_c (ok_p (xg_load _ _ _) (x_iload_n dX4_numberAt_4 rfl)) <|
  fa_c (ok_p (xg_load _ _ _) (x_aload_n dX4_numberAt_5 rfl)) <|
  fa_c (ok_p (xg_alen _) (x_alen dX4_numberAt_6)) <|
  fa_c (ok_p (xg_icmp _ _ _) (x_icmp_ge dX4_numberAt_7 (by decide))) <|
  fa_c (ok_p (xg_load _ _ _) (x_aload_n dX4_numberAt_10 rfl)) <|
  fa_c (ok_p (xg_load _ _ _) (x_iload_n dX4_numberAt_11 rfl)) <|
  fa_c (ok_p (xg_iald _) (x_iald dX4_numberAt_12)) <|
  fa_c (ok_p (xg_st _ _) (x_goto dX4_numberAt_13 (by decide))) <|
  fa_c (ok_p (xg_st _ _) (x_iconst dX4_numberAt_16 rfl)) <|
  fa_c (ok_r ⟨rfl, dX4_numberAt_17⟩) <|
  fa_n
theorem dX4_setNumber_0 : decode cX4_setNumber 0 = .ok (.iload_n 1, 1) := by decide +kernel
theorem dX4_setNumber_1 : decode cX4_setNumber 1 = .ok (.ifCond .lt 13, 3) := by decide +kernel
theorem dX4_setNumber_4 : decode cX4_setNumber 4 = .ok (.iload_n 1, 1) := by decide +kernel
theorem dX4_setNumber_5 : decode cX4_setNumber 5 = .ok (.aload_n 0, 1) := by decide +kernel
theorem dX4_setNumber_6 : decode cX4_setNumber 6 = .ok (.arraylength, 1) := by decide +kernel
theorem dX4_setNumber_7 : decode cX4_setNumber 7 = .ok (.if_icmp .ge 7, 3) := by decide +kernel
theorem dX4_setNumber_10 : decode cX4_setNumber 10 = .ok (.aload_n 0, 1) := by decide +kernel
theorem dX4_setNumber_11 : decode cX4_setNumber 11 = .ok (.iload_n 1, 1) := by decide +kernel
theorem dX4_setNumber_12 : decode cX4_setNumber 12 = .ok (.iload_n 2, 1) := by decide +kernel
theorem dX4_setNumber_13 : decode cX4_setNumber 13 = .ok (.iastore, 1) := by decide +kernel
theorem dX4_setNumber_14 : decode cX4_setNumber 14 = .ok (.return_, 1) := by decide +kernel
set_option maxRecDepth 20000 in
theorem tkX4_setNumber : ∀ q ∈ tbX4_setNumber, xOk (Zm false yX4_setNumber.name) RX4 cX4_setNumber 3 (none) pT pY q :=
  fa_c (ok_p (xg_load _ _ _) (x_iload_n dX4_setNumber_0 rfl)) <|
  fa_c (ok_p (xg_if _ _ _) (x_if_lt dX4_setNumber_1 (by decide))) <|
  fa_c (ok_p (xg_load _ _ _) (x_iload_n dX4_setNumber_4 rfl)) <|
  fa_c (ok_p (xg_load _ _ _) (x_aload_n dX4_setNumber_5 rfl)) <|
  fa_c (ok_p (xg_alen _) (x_alen dX4_setNumber_6)) <|
  fa_c (ok_p (xg_icmp _ _ _) (x_icmp_ge dX4_setNumber_7 (by decide))) <|
  fa_c (ok_p (xg_load _ _ _) (x_aload_n dX4_setNumber_10 rfl)) <|
  fa_c (ok_p (xg_load _ _ _) (x_iload_n dX4_setNumber_11 rfl)) <|
  fa_c (ok_p (xg_load _ _ _) (x_iload_n dX4_setNumber_12 rfl)) <|
  fa_c (ok_p (xg_iast _) (x_iast dX4_setNumber_13)) <|
  fa_c (ok_r ⟨rfl, dX4_setNumber_14⟩) <|
  fa_n
