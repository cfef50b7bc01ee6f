/-! the tables are the methods' code: by program -/
theorem dX0_init_0 : decode cX0_init 0 = .ok (.aload_n 0, 1) := by decide +kernel
theorem dX0_init_1 : decode cX0_init 1 = .ok (.invokespecial 1, 3) := by decide +kernel
theorem dX0_init_4 : decode cX0_init 4 = .ok (.aload_n 0, 1) := by decide +kernel
theorem dX0_init_5 : decode cX0_init 5 = .ok (.bipush 8, 2) := by decide +kernel
theorem dX0_init_7 : decode cX0_init 7 = .ok (.newarray .int, 2) := by decide +kernel
theorem dX0_init_9 : decode cX0_init 9 = .ok (.putfield 9, 3) := by decide +kernel
theorem dX0_init_12 : decode cX0_init 12 = .ok (.aload_n 0, 1) := by decide +kernel
theorem dX0_init_13 : decode cX0_init 13 = .ok (.bipush 8, 2) := by decide +kernel
theorem dX0_init_15 : decode cX0_init 15 = .ok (.newarray .int, 2) := by decide +kernel
theorem dX0_init_17 : decode cX0_init 17 = .ok (.putfield 13, 3) := by decide +kernel
theorem dX0_init_20 : decode cX0_init 20 = .ok (.aload_n 0, 1) := by decide +kernel
theorem dX0_init_21 : decode cX0_init 21 = .ok (.bipush 8, 2) := by decide +kernel
theorem dX0_init_23 : decode cX0_init 23 = .ok (.newarray .int, 2) := by decide +kernel
theorem dX0_init_25 : decode cX0_init 25 = .ok (.putfield 16, 3) := by decide +kernel
theorem dX0_init_28 : decode cX0_init 28 = .ok (.return_, 1) := by decide +kernel
set_option maxRecDepth 20000 in
theorem tkX0_init : ∀ q ∈ tbX0_init, xOk (Zm true yX0_init.name) RX0 cX0_init 1 (none) pT pY q :=
  fa_c (ok_p (xg_load _ _ _) (x_aload_n dX0_init_0 rfl)) <|
  fa_c (ok_p (xg_obj _) (x_obj (fun _ _ _ _ _ h => h.2 rfl) kw137 kw75 kw76 dX0_init_1)) <|
  fa_c (ok_p (xg_load _ _ _) (x_aload_n dX0_init_4 rfl)) <|
  fa_c (ok_p (xg_st _ _) (x_bipush dX0_init_5 rfl)) <|
  fa_c (ok_p (xg_newa _) (x_newa dX0_init_7 kw94)) <|
  fa_c (ok_p (xg_putf _ _ _ _) (x_putfof (C := RX0) (T := TX0) (N := 4) tyX0 tyX0_ok nmX0 rfl (by decide) inX0 kw138 dX0_init_9 (tyX0_ok 0 (by decide)) (fun _ _ _ _ _ h => Or.inr ⟨rfl, h.1, rfl⟩))) <|
  fa_c (ok_p (xg_load _ _ _) (x_aload_n dX0_init_12 rfl)) <|
  fa_c (ok_p (xg_st _ _) (x_bipush dX0_init_13 rfl)) <|
  fa_c (ok_p (xg_newa _) (x_newa dX0_init_15 kw94)) <|
  fa_c (ok_p (xg_putf _ _ _ _) (x_putfof (C := RX0) (T := TX0) (N := 4) tyX0 tyX0_ok nmX0 rfl (by decide) inX0 kw139 dX0_init_17 (tyX0_ok 1 (by decide)) (fun _ _ _ _ _ h => Or.inr ⟨rfl, h.1, rfl⟩))) <|
  fa_c (ok_p (xg_load _ _ _) (x_aload_n dX0_init_20 rfl)) <|
  fa_c (ok_p (xg_st _ _) (x_bipush dX0_init_21 rfl)) <|
  fa_c (ok_p (xg_newa _) (x_newa dX0_init_23 kw94)) <|
  fa_c (ok_p (xg_putf _ _ _ _) (x_putfof (C := RX0) (T := TX0) (N := 4) tyX0 tyX0_ok nmX0 rfl (by decide) inX0 kw140 dX0_init_25 (tyX0_ok 2 (by decide)) (fun _ _ _ _ _ h => Or.inr ⟨rfl, h.1, rfl⟩))) <|
  fa_c (ok_r ⟨rfl, dX0_init_28⟩) <|
  fa_n
theorem dX0_count_0 : decode cX0_count 0 = .ok (.aload_n 0, 1) := by decide +kernel
theorem dX0_count_1 : decode cX0_count 1 = .ok (.getfield 19, 3) := by decide +kernel
theorem dX0_count_4 : decode cX0_count 4 = .ok (.ireturn, 1) := by decide +kernel
set_option maxRecDepth 20000 in
theorem tkX0_count : ∀ q ∈ tbX0_count, xOk (Zm false yX0_count.name) RX0 cX0_count 1 (some .int) pT pY q :=
  fa_c (ok_p (xg_load _ _ _) (x_aload_n dX0_count_0 rfl)) <|
  fa_c (ok_p (xg_getf _ _ _) (x_getf (C := RX0) (T := TX0) (N := 4) rfl (by decide) inX0 kw141 dX0_count_1)) <|
  fa_c (ok_r ⟨rfl, dX0_count_4⟩) <|
  fa_n
theorem dX0_areFull_0 : decode cX0_areFull 0 = .ok (.aload_n 0, 1) := by decide +kernel
theorem dX0_areFull_1 : decode cX0_areFull 1 = .ok (.getfield 19, 3) := by decide +kernel
theorem dX0_areFull_4 : decode cX0_areFull 4 = .ok (.bipush 8, 2) := by decide +kernel
theorem dX0_areFull_6 : decode cX0_areFull 6 = .ok (.if_icmp .lt 7, 3) := by decide +kernel
theorem dX0_areFull_9 : decode cX0_areFull 9 = .ok (.iconst 1, 1) := by decide +kernel
theorem dX0_areFull_10 : decode cX0_areFull 10 = .ok (.goto 4, 3) := by decide +kernel
theorem dX0_areFull_13 : decode cX0_areFull 13 = .ok (.iconst 0, 1) := by decide +kernel
theorem dX0_areFull_14 : decode cX0_areFull 14 = .ok (.ireturn, 1) := by decide +kernel
set_option maxRecDepth 20000 in
theorem tkX0_areFull : ∀ q ∈ tbX0_areFull, xOk (Zm false yX0_areFull.name) RX0 cX0_areFull 1 (some .boolean) pT pY q :=
  fa_c (ok_p (xg_load _ _ _) (x_aload_n dX0_areFull_0 rfl)) <|
  fa_c (ok_p (xg_getf _ _ _) (x_getf (C := RX0) (T := TX0) (N := 4) rfl (by decide) inX0 kw141 dX0_areFull_1)) <|
  fa_c (ok_p (xg_st _ _) (x_bipush dX0_areFull_4 rfl)) <|
  fa_c (ok_p (xg_icmp _ _ _) (x_icmp_lt dX0_areFull_6 (by decide))) <|
  fa_c (ok_p (xg_st _ _) (x_iconst dX0_areFull_9 rfl)) <|
  fa_c (ok_p (xg_st _ _) (x_goto dX0_areFull_10 (by decide))) <|
  fa_c (ok_p (xg_st _ _) (x_iconst dX0_areFull_13 rfl)) <|
  fa_c (ok_r ⟨rfl, dX0_areFull_14⟩) <|
  fa_n
theorem dX0_add_0 : decode cX0_add 0 = .ok (.aload_n 0, 1) := by decide +kernel
theorem dX0_add_1 : decode cX0_add 1 = .ok (.getfield 9, 3) := by decide +kernel
theorem dX0_add_4 : decode cX0_add 4 = .ok (.aload_n 0, 1) := by decide +kernel
theorem dX0_add_5 : decode cX0_add 5 = .ok (.getfield 19, 3) := by decide +kernel
theorem dX0_add_8 : decode cX0_add 8 = .ok (.iload_n 1, 1) := by decide +kernel
theorem dX0_add_9 : decode cX0_add 9 = .ok (.invokestatic 23, 3) := by decide +kernel
theorem dX0_add_12 : decode cX0_add 12 = .ok (.aload_n 0, 1) := by decide +kernel
theorem dX0_add_13 : decode cX0_add 13 = .ok (.getfield 13, 3) := by decide +kernel
theorem dX0_add_16 : decode cX0_add 16 = .ok (.aload_n 0, 1) := by decide +kernel
theorem dX0_add_17 : decode cX0_add 17 = .ok (.getfield 19, 3) := by decide +kernel
theorem dX0_add_20 : decode cX0_add 20 = .ok (.iload_n 2, 1) := by decide +kernel
theorem dX0_add_21 : decode cX0_add 21 = .ok (.invokestatic 23, 3) := by decide +kernel
theorem dX0_add_24 : decode cX0_add 24 = .ok (.aload_n 0, 1) := by decide +kernel
theorem dX0_add_25 : decode cX0_add 25 = .ok (.getfield 16, 3) := by decide +kernel
theorem dX0_add_28 : decode cX0_add 28 = .ok (.aload_n 0, 1) := by decide +kernel
theorem dX0_add_29 : decode cX0_add 29 = .ok (.getfield 19, 3) := by decide +kernel
theorem dX0_add_32 : decode cX0_add 32 = .ok (.iload_n 3, 1) := by decide +kernel
theorem dX0_add_33 : decode cX0_add 33 = .ok (.invokestatic 23, 3) := by decide +kernel
theorem dX0_add_36 : decode cX0_add 36 = .ok (.aload_n 0, 1) := by decide +kernel
theorem dX0_add_37 : decode cX0_add 37 = .ok (.dup, 1) := by decide +kernel
theorem dX0_add_38 : decode cX0_add 38 = .ok (.getfield 19, 3) := by decide +kernel
theorem dX0_add_41 : decode cX0_add 41 = .ok (.dup_x1, 1) := by decide +kernel
theorem dX0_add_42 : decode cX0_add 42 = .ok (.iconst 1, 1) := by decide +kernel
theorem dX0_add_43 : decode cX0_add 43 = .ok (.iadd, 1) := by decide +kernel
theorem dX0_add_44 : decode cX0_add 44 = .ok (.putfield 19, 3) := by decide +kernel
theorem dX0_add_47 : decode cX0_add 47 = .ok (.ireturn, 1) := by decide +kernel
set_option maxRecDepth 20000 in
theorem tkX0_add : ∀ q ∈ tbX0_add, xOk (Zm false yX0_add.name) RX0 cX0_add 4 (some .int) pT pY q :=
  fa_c (ok_p (xg_load _ _ _) (x_aload_n dX0_add_0 rfl)) <|
  fa_c (ok_p (xg_getf _ _ _) (x_getf (C := RX0) (T := TX0) (N := 4) rfl (by decide) inX0 kw138 dX0_add_1)) <|
  fa_c (ok_p (xg_load _ _ _) (x_aload_n dX0_add_4 rfl)) <|
  fa_c (ok_p (xg_getf _ _ _) (x_getf (C := RX0) (T := TX0) (N := 4) rfl (by decide) inX0 kw141 dX0_add_5)) <|
  fa_c (ok_p (xg_load _ _ _) (x_iload_n dX0_add_8 rfl)) <|
  fa_c (ok_c pT_120 pY_120 (x_callSN (n := 3) (host := "HullCharts") rfl (by decide +kernel) kw211 kw59 kw212 (by decide +kernel) dX0_add_9)) <|
  fa_c (ok_p (xg_load _ _ _) (x_aload_n dX0_add_12 rfl)) <|
  fa_c (ok_p (xg_getf _ _ _) (x_getf (C := RX0) (T := TX0) (N := 4) rfl (by decide) inX0 kw139 dX0_add_13)) <|
  fa_c (ok_p (xg_load _ _ _) (x_aload_n dX0_add_16 rfl)) <|
  fa_c (ok_p (xg_getf _ _ _) (x_getf (C := RX0) (T := TX0) (N := 4) rfl (by decide) inX0 kw141 dX0_add_17)) <|
  fa_c (ok_p (xg_load _ _ _) (x_iload_n dX0_add_20 rfl)) <|
  fa_c (ok_c pT_120 pY_120 (x_callSN (n := 3) (host := "HullCharts") rfl (by decide +kernel) kw211 kw59 kw212 (by decide +kernel) dX0_add_21)) <|
  fa_c (ok_p (xg_load _ _ _) (x_aload_n dX0_add_24 rfl)) <|
  fa_c (ok_p (xg_getf _ _ _) (x_getf (C := RX0) (T := TX0) (N := 4) rfl (by decide) inX0 kw140 dX0_add_25)) <|
  fa_c (ok_p (xg_load _ _ _) (x_aload_n dX0_add_28 rfl)) <|
  fa_c (ok_p (xg_getf _ _ _) (x_getf (C := RX0) (T := TX0) (N := 4) rfl (by decide) inX0 kw141 dX0_add_29)) <|
  fa_c (ok_p (xg_load _ _ _) (x_iload_n dX0_add_32 rfl)) <|
  fa_c (ok_c pT_120 pY_120 (x_callSN (n := 3) (host := "HullCharts") rfl (by decide +kernel) kw211 kw59 kw212 (by decide +kernel) dX0_add_33)) <|
  fa_c (ok_p (xg_load _ _ _) (x_aload_n dX0_add_36 rfl)) <|
  fa_c (ok_p (xg_st _ _) (x_dup dX0_add_37)) <|
  fa_c (ok_p (xg_getf _ _ _) (x_getf (C := RX0) (T := TX0) (N := 4) rfl (by decide) inX0 kw141 dX0_add_38)) <|
  fa_c (ok_p (xg_st _ _) (x_dupx1 dX0_add_41)) <|
  fa_c (ok_p (xg_st _ _) (x_iconst dX0_add_42 rfl)) <|
  fa_c (ok_p (xg_st _ _) (x_iadd dX0_add_43)) <|
  fa_c (ok_p (xg_putf _ _ _ _) (x_putfof (C := RX0) (T := TX0) (N := 4) tyX0 tyX0_ok nmX0 rfl (by decide) inX0 kw141 dX0_add_44 (tyX0_ok 3 (by decide)) (fun _ _ _ _ _ _ => Or.inl rfl))) <|
  fa_c (ok_r ⟨rfl, dX0_add_47⟩) <|
  fa_n
theorem dX0_keep_0 : decode cX0_keep 0 = .ok (.aload_n 0, 1) := by decide +kernel
theorem dX0_keep_1 : decode cX0_keep 1 = .ok (.iload_n 1, 1) := by decide +kernel
theorem dX0_keep_2 : decode cX0_keep 2 = .ok (.putfield 19, 3) := by decide +kernel
theorem dX0_keep_5 : decode cX0_keep 5 = .ok (.return_, 1) := by decide +kernel
set_option maxRecDepth 20000 in
theorem tkX0_keep : ∀ q ∈ tbX0_keep, xOk (Zm false yX0_keep.name) RX0 cX0_keep 2 (none) pT pY q :=
  fa_c (ok_p (xg_load _ _ _) (x_aload_n dX0_keep_0 rfl)) <|
  fa_c (ok_p (xg_load _ _ _) (x_iload_n dX0_keep_1 rfl)) <|
  fa_c (ok_p (xg_putf _ _ _ _) (x_putfof (C := RX0) (T := TX0) (N := 4) tyX0 tyX0_ok nmX0 rfl (by decide) inX0 kw141 dX0_keep_2 (tyX0_ok 3 (by decide)) (fun _ _ _ _ _ _ => Or.inl rfl))) <|
  fa_c (ok_r ⟨rfl, dX0_keep_5⟩) <|
  fa_n
theorem dX0_areSo_0 : decode cX0_areSo 0 = .ok (.iconst 0, 1) := by decide +kernel
theorem dX0_areSo_1 : decode cX0_areSo 1 = .ok (.istore 5, 2) := by decide +kernel
theorem dX0_areSo_3 : decode cX0_areSo 3 = .ok (.iload 5, 2) := by decide +kernel
theorem dX0_areSo_5 : decode cX0_areSo 5 = .ok (.aload_n 0, 1) := by decide +kernel
theorem dX0_areSo_6 : decode cX0_areSo 6 = .ok (.getfield 19, 3) := by decide +kernel
theorem dX0_areSo_9 : decode cX0_areSo 9 = .ok (.if_icmp .ge 87, 3) := by decide +kernel
theorem dX0_areSo_12 : decode cX0_areSo 12 = .ok (.aload_n 0, 1) := by decide +kernel
theorem dX0_areSo_13 : decode cX0_areSo 13 = .ok (.getfield 9, 3) := by decide +kernel
theorem dX0_areSo_16 : decode cX0_areSo 16 = .ok (.iload 5, 2) := by decide +kernel
theorem dX0_areSo_18 : decode cX0_areSo 18 = .ok (.invokestatic 29, 3) := by decide +kernel
theorem dX0_areSo_21 : decode cX0_areSo 21 = .ok (.istore 6, 2) := by decide +kernel
theorem dX0_areSo_23 : decode cX0_areSo 23 = .ok (.iload 6, 2) := by decide +kernel
theorem dX0_areSo_25 : decode cX0_areSo 25 = .ok (.iload_n 2, 1) := by decide +kernel
theorem dX0_areSo_26 : decode cX0_areSo 26 = .ok (.if_icmp .ne 7, 3) := by decide +kernel
theorem dX0_areSo_29 : decode cX0_areSo 29 = .ok (.iload_n 3, 1) := by decide +kernel
theorem dX0_areSo_30 : decode cX0_areSo 30 = .ok (.goto 9, 3) := by decide +kernel
theorem dX0_areSo_33 : decode cX0_areSo 33 = .ok (.aload_n 1, 1) := by decide +kernel
theorem dX0_areSo_34 : decode cX0_areSo 34 = .ok (.iload 6, 2) := by decide +kernel
theorem dX0_areSo_36 : decode cX0_areSo 36 = .ok (.invokevirtual 33, 3) := by decide +kernel
theorem dX0_areSo_39 : decode cX0_areSo 39 = .ok (.istore 7, 2) := by decide +kernel
theorem dX0_areSo_41 : decode cX0_areSo 41 = .ok (.iload 6, 2) := by decide +kernel
theorem dX0_areSo_43 : decode cX0_areSo 43 = .ok (.iload_n 2, 1) := by decide +kernel
theorem dX0_areSo_44 : decode cX0_areSo 44 = .ok (.if_icmp .ne 8, 3) := by decide +kernel
theorem dX0_areSo_47 : decode cX0_areSo 47 = .ok (.iload 4, 2) := by decide +kernel
theorem dX0_areSo_49 : decode cX0_areSo 49 = .ok (.goto 9, 3) := by decide +kernel
theorem dX0_areSo_52 : decode cX0_areSo 52 = .ok (.aload_n 1, 1) := by decide +kernel
theorem dX0_areSo_53 : decode cX0_areSo 53 = .ok (.iload 6, 2) := by decide +kernel
theorem dX0_areSo_55 : decode cX0_areSo 55 = .ok (.invokevirtual 39, 3) := by decide +kernel
theorem dX0_areSo_58 : decode cX0_areSo 58 = .ok (.istore 8, 2) := by decide +kernel
theorem dX0_areSo_60 : decode cX0_areSo 60 = .ok (.iload 7, 2) := by decide +kernel
theorem dX0_areSo_62 : decode cX0_areSo 62 = .ok (.iload 8, 2) := by decide +kernel
theorem dX0_areSo_64 : decode cX0_areSo 64 = .ok (.aload_n 0, 1) := by decide +kernel
theorem dX0_areSo_65 : decode cX0_areSo 65 = .ok (.getfield 13, 3) := by decide +kernel
theorem dX0_areSo_68 : decode cX0_areSo 68 = .ok (.iload 5, 2) := by decide +kernel
theorem dX0_areSo_70 : decode cX0_areSo 70 = .ok (.invokestatic 29, 3) := by decide +kernel
theorem dX0_areSo_73 : decode cX0_areSo 73 = .ok (.invokestatic 42, 3) := by decide +kernel
theorem dX0_areSo_76 : decode cX0_areSo 76 = .ok (.aload_n 0, 1) := by decide +kernel
theorem dX0_areSo_77 : decode cX0_areSo 77 = .ok (.getfield 16, 3) := by decide +kernel
theorem dX0_areSo_80 : decode cX0_areSo 80 = .ok (.iload 5, 2) := by decide +kernel
theorem dX0_areSo_82 : decode cX0_areSo 82 = .ok (.invokestatic 29, 3) := by decide +kernel
theorem dX0_areSo_85 : decode cX0_areSo 85 = .ok (.if_icmp .eq 5, 3) := by decide +kernel
theorem dX0_areSo_88 : decode cX0_areSo 88 = .ok (.iconst 0, 1) := by decide +kernel
theorem dX0_areSo_89 : decode cX0_areSo 89 = .ok (.ireturn, 1) := by decide +kernel
theorem dX0_areSo_90 : decode cX0_areSo 90 = .ok (.iinc 5 1, 3) := by decide +kernel
theorem dX0_areSo_93 : decode cX0_areSo 93 = .ok (.goto (-90), 3) := by decide +kernel
theorem dX0_areSo_96 : decode cX0_areSo 96 = .ok (.iconst 1, 1) := by decide +kernel
theorem dX0_areSo_97 : decode cX0_areSo 97 = .ok (.ireturn, 1) := by decide +kernel
set_option maxRecDepth 20000 in
theorem tkX0_areSo : ∀ q ∈ tbX0_areSo, xOk (Zm false yX0_areSo.name) RX0 cX0_areSo 9 (some .boolean) pT pY q :=
  fa_c (ok_p (xg_st _ _) (x_iconst dX0_areSo_0 rfl)) <|
  fa_c (ok_p (xg_store _ _ _) (x_istore dX0_areSo_1)) <|
  fa_c (ok_p (xg_clr _ (xg_load _ _ _)) (x_clr _ (x_iload dX0_areSo_3))) <|
  fa_c (ok_p (xg_load _ _ _) (x_aload_n dX0_areSo_5 rfl)) <|
  fa_c (ok_p (xg_getf _ _ _) (x_getf (C := RX0) (T := TX0) (N := 4) rfl (by decide) inX0 kw141 dX0_areSo_6)) <|
  fa_c (ok_p (xg_icmp _ _ _) (x_icmp_ge dX0_areSo_9 (by decide))) <|
  fa_c (ok_p (xg_load _ _ _) (x_aload_n dX0_areSo_12 rfl)) <|
  fa_c (ok_p (xg_getf _ _ _) (x_getf (C := RX0) (T := TX0) (N := 4) rfl (by decide) inX0 kw138 dX0_areSo_13)) <|
  fa_c (ok_p (xg_load _ _ _) (x_iload dX0_areSo_16)) <|
  fa_c (ok_c pT_119 pY_119 (x_callSN (n := 2) (host := "HullCharts") rfl (by decide +kernel) kw208 kw59 kw209 (by decide +kernel) dX0_areSo_18)) <|
  fa_c (ok_p (xg_store _ _ _) (x_istore dX0_areSo_21)) <|
  fa_c (ok_p (xg_load _ _ _) (x_iload dX0_areSo_23)) <|
  fa_c (ok_p (xg_load _ _ _) (x_iload_n dX0_areSo_25 rfl)) <|
  fa_c (ok_p (xg_icmp _ _ _) (x_icmp_ne dX0_areSo_26 (by decide))) <|
  fa_c (ok_p (xg_load _ _ _) (x_iload_n dX0_areSo_29 rfl)) <|
  fa_c (ok_p (xg_st _ _) (x_goto dX0_areSo_30 (by decide))) <|
  fa_c (ok_p (xg_load _ _ _) (x_aload_n dX0_areSo_33 rfl)) <|
  fa_c (ok_p (xg_load _ _ _) (x_iload dX0_areSo_34)) <|
  fa_c (ok_c pT_20 pY_20 (x_callV (n := 1) (C := RX1) (T := TX1) (N := 10) rfl rfl kw544 kw284 kw285 kw61 kw286 (by decide +kernel) dX0_areSo_36)) <|
  fa_c (ok_p (xg_store _ _ _) (x_istore dX0_areSo_39)) <|
  fa_c (ok_p (xg_load _ _ _) (x_iload dX0_areSo_41)) <|
  fa_c (ok_p (xg_load _ _ _) (x_iload_n dX0_areSo_43 rfl)) <|
  fa_c (ok_p (xg_icmp _ _ _) (x_icmp_ne dX0_areSo_44 (by decide))) <|
  fa_c (ok_p (xg_load _ _ _) (x_iload dX0_areSo_47)) <|
  fa_c (ok_p (xg_st _ _) (x_goto dX0_areSo_49 (by decide))) <|
  fa_c (ok_p (xg_load _ _ _) (x_aload_n dX0_areSo_52 rfl)) <|
  fa_c (ok_p (xg_load _ _ _) (x_iload dX0_areSo_53)) <|
  fa_c (ok_c pT_21 pY_21 (x_callV (n := 1) (C := RX1) (T := TX1) (N := 10) rfl rfl kw545 kw288 kw289 kw61 kw290 (by decide +kernel) dX0_areSo_55)) <|
  fa_c (ok_p (xg_store _ _ _) (x_istore dX0_areSo_58)) <|
  fa_c (ok_p (xg_load _ _ _) (x_iload dX0_areSo_60)) <|
  fa_c (ok_p (xg_load _ _ _) (x_iload dX0_areSo_62)) <|
  fa_c (ok_p (xg_load _ _ _) (x_aload_n dX0_areSo_64 rfl)) <|
  fa_c (ok_p (xg_getf _ _ _) (x_getf (C := RX0) (T := TX0) (N := 4) rfl (by decide) inX0 kw139 dX0_areSo_65)) <|
  fa_c (ok_p (xg_load _ _ _) (x_iload dX0_areSo_68)) <|
  fa_c (ok_c pT_119 pY_119 (x_callSN (n := 2) (host := "HullCharts") rfl (by decide +kernel) kw208 kw59 kw209 (by decide +kernel) dX0_areSo_70)) <|
  fa_c (ok_c pT_30 pY_30 (x_callS (n := 3) rfl kw546 kw310 kw61 kw311 (by decide +kernel) dX0_areSo_73)) <|
  fa_c (ok_p (xg_load _ _ _) (x_aload_n dX0_areSo_76 rfl)) <|
  fa_c (ok_p (xg_getf _ _ _) (x_getf (C := RX0) (T := TX0) (N := 4) rfl (by decide) inX0 kw140 dX0_areSo_77)) <|
  fa_c (ok_p (xg_load _ _ _) (x_iload dX0_areSo_80)) <|
  fa_c (ok_c pT_119 pY_119 (x_callSN (n := 2) (host := "HullCharts") rfl (by decide +kernel) kw208 kw59 kw209 (by decide +kernel) dX0_areSo_82)) <|
  fa_c (ok_p (xg_icmp _ _ _) (x_icmp_eq dX0_areSo_85 (by decide))) <|
  fa_c (ok_p (xg_st _ _) (x_iconst dX0_areSo_88 rfl)) <|
  fa_c (ok_r ⟨rfl, dX0_areSo_89⟩) <|
  fa_c (ok_p (xg_iinc _ _ _) (x_iinc dX0_areSo_90 rfl)) <|
  fa_c (ok_p (xg_st _ _) (x_goto dX0_areSo_93 (by decide))) <|
  fa_c (ok_p (xg_st _ _) (x_iconst dX0_areSo_96 rfl)) <|
  fa_c (ok_r ⟨rfl, dX0_areSo_97⟩) <|
  fa_n
theorem dX2_firstFault_0 : decode cX2_firstFault 0 = .ok (.aload_n 0, 1) := by decide +kernel
theorem dX2_firstFault_1 : decode cX2_firstFault 1 = .ok (.iload_n 1, 1) := by decide +kernel
theorem dX2_firstFault_2 : decode cX2_firstFault 2 = .ok (.iconst 0, 1) := by decide +kernel
theorem dX2_firstFault_3 : decode cX2_firstFault 3 = .ok (.invokestatic 9, 3) := by decide +kernel
theorem dX2_firstFault_6 : decode cX2_firstFault 6 = .ok (.bipush 102, 2) := by decide +kernel
theorem dX2_firstFault_8 : decode cX2_firstFault 8 = .ok (.if_icmp .eq 5, 3) := by decide +kernel
theorem dX2_firstFault_11 : decode cX2_firstFault 11 = .ok (.iconst 0, 1) := by decide +kernel
theorem dX2_firstFault_12 : decode cX2_firstFault 12 = .ok (.ireturn, 1) := by decide +kernel
theorem dX2_firstFault_13 : decode cX2_firstFault 13 = .ok (.aload_n 0, 1) := by decide +kernel
theorem dX2_firstFault_14 : decode cX2_firstFault 14 = .ok (.iload_n 1, 1) := by decide +kernel
theorem dX2_firstFault_15 : decode cX2_firstFault 15 = .ok (.iconst 1, 1) := by decide +kernel
theorem dX2_firstFault_16 : decode cX2_firstFault 16 = .ok (.invokestatic 9, 3) := by decide +kernel
theorem dX2_firstFault_19 : decode cX2_firstFault 19 = .ok (.invokestatic 15, 3) := by decide +kernel
theorem dX2_firstFault_22 : decode cX2_firstFault 22 = .ok (.istore_n 2, 1) := by decide +kernel
theorem dX2_firstFault_23 : decode cX2_firstFault 23 = .ok (.iload_n 2, 1) := by decide +kernel
theorem dX2_firstFault_24 : decode cX2_firstFault 24 = .ok (.invokestatic 19, 3) := by decide +kernel
theorem dX2_firstFault_27 : decode cX2_firstFault 27 = .ok (.ifCond .ne 5, 3) := by decide +kernel
theorem dX2_firstFault_30 : decode cX2_firstFault 30 = .ok (.iconst 1, 1) := by decide +kernel
theorem dX2_firstFault_31 : decode cX2_firstFault 31 = .ok (.ireturn, 1) := by decide +kernel
theorem dX2_firstFault_32 : decode cX2_firstFault 32 = .ok (.aload_n 0, 1) := by decide +kernel
theorem dX2_firstFault_33 : decode cX2_firstFault 33 = .ok (.iload_n 1, 1) := by decide +kernel
theorem dX2_firstFault_34 : decode cX2_firstFault 34 = .ok (.iconst 2, 1) := by decide +kernel
theorem dX2_firstFault_35 : decode cX2_firstFault 35 = .ok (.invokestatic 9, 3) := by decide +kernel
theorem dX2_firstFault_38 : decode cX2_firstFault 38 = .ok (.invokestatic 15, 3) := by decide +kernel
theorem dX2_firstFault_41 : decode cX2_firstFault 41 = .ok (.istore_n 3, 1) := by decide +kernel
theorem dX2_firstFault_42 : decode cX2_firstFault 42 = .ok (.iload_n 3, 1) := by decide +kernel
theorem dX2_firstFault_43 : decode cX2_firstFault 43 = .ok (.invokestatic 19, 3) := by decide +kernel
theorem dX2_firstFault_46 : decode cX2_firstFault 46 = .ok (.ifCond .ne 5, 3) := by decide +kernel
theorem dX2_firstFault_49 : decode cX2_firstFault 49 = .ok (.iconst 2, 1) := by decide +kernel
theorem dX2_firstFault_50 : decode cX2_firstFault 50 = .ok (.ireturn, 1) := by decide +kernel
theorem dX2_firstFault_51 : decode cX2_firstFault 51 = .ok (.iconst 3, 1) := by decide +kernel
theorem dX2_firstFault_52 : decode cX2_firstFault 52 = .ok (.iload_n 2, 1) := by decide +kernel
theorem dX2_firstFault_53 : decode cX2_firstFault 53 = .ok (.iload_n 3, 1) := by decide +kernel
theorem dX2_firstFault_54 : decode cX2_firstFault 54 = .ok (.imul, 1) := by decide +kernel
theorem dX2_firstFault_55 : decode cX2_firstFault 55 = .ok (.iadd, 1) := by decide +kernel
theorem dX2_firstFault_56 : decode cX2_firstFault 56 = .ok (.istore 4, 2) := by decide +kernel
theorem dX2_firstFault_58 : decode cX2_firstFault 58 = .ok (.iconst 3, 1) := by decide +kernel
theorem dX2_firstFault_59 : decode cX2_firstFault 59 = .ok (.istore 5, 2) := by decide +kernel
theorem dX2_firstFault_61 : decode cX2_firstFault 61 = .ok (.iload 5, 2) := by decide +kernel
theorem dX2_firstFault_63 : decode cX2_firstFault 63 = .ok (.iload 4, 2) := by decide +kernel
theorem dX2_firstFault_65 : decode cX2_firstFault 65 = .ok (.if_icmp .ge 25, 3) := by decide +kernel
theorem dX2_firstFault_68 : decode cX2_firstFault 68 = .ok (.aload_n 0, 1) := by decide +kernel
theorem dX2_firstFault_69 : decode cX2_firstFault 69 = .ok (.iload_n 1, 1) := by decide +kernel
theorem dX2_firstFault_70 : decode cX2_firstFault 70 = .ok (.iload 5, 2) := by decide +kernel
theorem dX2_firstFault_72 : decode cX2_firstFault 72 = .ok (.invokestatic 9, 3) := by decide +kernel
theorem dX2_firstFault_75 : decode cX2_firstFault 75 = .ok (.invokestatic 15, 3) := by decide +kernel
theorem dX2_firstFault_78 : decode cX2_firstFault 78 = .ok (.ifCond .ge 6, 3) := by decide +kernel
theorem dX2_firstFault_81 : decode cX2_firstFault 81 = .ok (.iload 5, 2) := by decide +kernel
theorem dX2_firstFault_83 : decode cX2_firstFault 83 = .ok (.ireturn, 1) := by decide +kernel
theorem dX2_firstFault_84 : decode cX2_firstFault 84 = .ok (.iinc 5 1, 3) := by decide +kernel
theorem dX2_firstFault_87 : decode cX2_firstFault 87 = .ok (.goto (-26), 3) := by decide +kernel
theorem dX2_firstFault_90 : decode cX2_firstFault 90 = .ok (.aload_n 0, 1) := by decide +kernel
theorem dX2_firstFault_91 : decode cX2_firstFault 91 = .ok (.iload_n 1, 1) := by decide +kernel
theorem dX2_firstFault_92 : decode cX2_firstFault 92 = .ok (.iload 4, 2) := by decide +kernel
theorem dX2_firstFault_94 : decode cX2_firstFault 94 = .ok (.invokestatic 23, 3) := by decide +kernel
theorem dX2_firstFault_97 : decode cX2_firstFault 97 = .ok (.ireturn, 1) := by decide +kernel
set_option maxRecDepth 20000 in
theorem tkX2_firstFault : ∀ q ∈ tbX2_firstFault, xOk (Zm false yX2_firstFault.name) RX2 cX2_firstFault 6 (some .int) pT pY q :=
  fa_c (ok_p (xg_load _ _ _) (x_aload_n dX2_firstFault_0 rfl)) <|
  fa_c (ok_p (xg_load _ _ _) (x_iload_n dX2_firstFault_1 rfl)) <|
  fa_c (ok_p (xg_st _ _) (x_iconst dX2_firstFault_2 rfl)) <|
  fa_c (ok_c pT_56 pY_56 (x_callS (n := 3) rfl kw220 kw221 kw64 kw222 (by decide +kernel) dX2_firstFault_3)) <|
  fa_c (ok_p (xg_st _ _) (x_bipush dX2_firstFault_6 rfl)) <|
  fa_c (ok_p (xg_icmp _ _ _) (x_icmp_eq dX2_firstFault_8 (by decide))) <|
  fa_c (ok_p (xg_st _ _) (x_iconst dX2_firstFault_11 rfl)) <|
  fa_c (ok_r ⟨rfl, dX2_firstFault_12⟩) <|
  fa_c (ok_p (xg_load _ _ _) (x_aload_n dX2_firstFault_13 rfl)) <|
  fa_c (ok_p (xg_load _ _ _) (x_iload_n dX2_firstFault_14 rfl)) <|
  fa_c (ok_p (xg_st _ _) (x_iconst dX2_firstFault_15 rfl)) <|
  fa_c (ok_c pT_56 pY_56 (x_callS (n := 3) rfl kw220 kw221 kw64 kw222 (by decide +kernel) dX2_firstFault_16)) <|
  fa_c (ok_c pT_58 pY_58 (x_callS (n := 1) rfl kw224 kw225 kw64 kw226 (by decide +kernel) dX2_firstFault_19)) <|
  fa_c (ok_p (xg_store _ _ _) (x_istore_n dX2_firstFault_22 rfl)) <|
  fa_c (ok_p (xg_load _ _ _) (x_iload_n dX2_firstFault_23 rfl)) <|
  fa_c (ok_c pT_57 pY_57 (x_callS (n := 1) rfl kw228 kw229 kw64 kw230 (by decide +kernel) dX2_firstFault_24)) <|
  fa_c (ok_p (xg_if _ _ _) (x_if_ne dX2_firstFault_27 (by decide))) <|
  fa_c (ok_p (xg_st _ _) (x_iconst dX2_firstFault_30 rfl)) <|
  fa_c (ok_r ⟨rfl, dX2_firstFault_31⟩) <|
  fa_c (ok_p (xg_load _ _ _) (x_aload_n dX2_firstFault_32 rfl)) <|
  fa_c (ok_p (xg_load _ _ _) (x_iload_n dX2_firstFault_33 rfl)) <|
  fa_c (ok_p (xg_st _ _) (x_iconst dX2_firstFault_34 rfl)) <|
  fa_c (ok_c pT_56 pY_56 (x_callS (n := 3) rfl kw220 kw221 kw64 kw222 (by decide +kernel) dX2_firstFault_35)) <|
  fa_c (ok_c pT_58 pY_58 (x_callS (n := 1) rfl kw224 kw225 kw64 kw226 (by decide +kernel) dX2_firstFault_38)) <|
  fa_c (ok_p (xg_store _ _ _) (x_istore_n dX2_firstFault_41 rfl)) <|
  fa_c (ok_p (xg_load _ _ _) (x_iload_n dX2_firstFault_42 rfl)) <|
  fa_c (ok_c pT_57 pY_57 (x_callS (n := 1) rfl kw228 kw229 kw64 kw230 (by decide +kernel) dX2_firstFault_43)) <|
  fa_c (ok_p (xg_if _ _ _) (x_if_ne dX2_firstFault_46 (by decide))) <|
  fa_c (ok_p (xg_st _ _) (x_iconst dX2_firstFault_49 rfl)) <|
  fa_c (ok_r ⟨rfl, dX2_firstFault_50⟩) <|
  fa_c (ok_p (xg_st _ _) (x_iconst dX2_firstFault_51 rfl)) <|
  fa_c (ok_p (xg_load _ _ _) (x_iload_n dX2_firstFault_52 rfl)) <|
  fa_c (ok_p (xg_load _ _ _) (x_iload_n dX2_firstFault_53 rfl)) <|
  fa_c (ok_p (xg_st _ _) (x_imul dX2_firstFault_54)) <|
  fa_c (ok_p (xg_st _ _) (x_iadd dX2_firstFault_55)) <|
  fa_c (ok_p (xg_store _ _ _) (x_istore dX2_firstFault_56)) <|
  fa_c (ok_p (xg_st _ _) (x_iconst dX2_firstFault_58 rfl)) <|
  fa_c (ok_p (xg_store _ _ _) (x_istore dX2_firstFault_59)) <|
  fa_c (ok_p (xg_clr _ (xg_load _ _ _)) (x_clr _ (x_iload dX2_firstFault_61))) <|
  fa_c (ok_p (xg_load _ _ _) (x_iload dX2_firstFault_63)) <|
  fa_c (ok_p (xg_icmp _ _ _) (x_icmp_ge dX2_firstFault_65 (by decide))) <|
  fa_c (ok_p (xg_load _ _ _) (x_aload_n dX2_firstFault_68 rfl)) <|
  fa_c (ok_p (xg_load _ _ _) (x_iload_n dX2_firstFault_69 rfl)) <|
  fa_c (ok_p (xg_load _ _ _) (x_iload dX2_firstFault_70)) <|
  fa_c (ok_c pT_56 pY_56 (x_callS (n := 3) rfl kw220 kw221 kw64 kw222 (by decide +kernel) dX2_firstFault_72)) <|
  fa_c (ok_c pT_58 pY_58 (x_callS (n := 1) rfl kw224 kw225 kw64 kw226 (by decide +kernel) dX2_firstFault_75)) <|
  fa_c (ok_p (xg_if _ _ _) (x_if_ge dX2_firstFault_78 (by decide))) <|
  fa_c (ok_p (xg_load _ _ _) (x_iload dX2_firstFault_81)) <|
  fa_c (ok_r ⟨rfl, dX2_firstFault_83⟩) <|
  fa_c (ok_p (xg_iinc _ _ _) (x_iinc dX2_firstFault_84 rfl)) <|
  fa_c (ok_p (xg_st _ _) (x_goto dX2_firstFault_87 (by decide))) <|
  fa_c (ok_p (xg_load _ _ _) (x_aload_n dX2_firstFault_90 rfl)) <|
  fa_c (ok_p (xg_load _ _ _) (x_iload_n dX2_firstFault_91 rfl)) <|
  fa_c (ok_p (xg_load _ _ _) (x_iload dX2_firstFault_92)) <|
  fa_c (ok_c pT_54 pY_54 (x_callS (n := 3) rfl kw231 kw232 kw64 kw233 (by decide +kernel) dX2_firstFault_94)) <|
  fa_c (ok_r ⟨rfl, dX2_firstFault_97⟩) <|
  fa_n
theorem dX2_faultInLookers_0 : decode cX2_faultInLookers 0 = .ok (.aload_n 0, 1) := by decide +kernel
theorem dX2_faultInLookers_1 : decode cX2_faultInLookers 1 = .ok (.iconst 1, 1) := by decide +kernel
theorem dX2_faultInLookers_2 : decode cX2_faultInLookers 2 = .ok (.invokestatic 26, 3) := by decide +kernel
theorem dX2_faultInLookers_5 : decode cX2_faultInLookers 5 = .ok (.invokestatic 15, 3) := by decide +kernel
theorem dX2_faultInLookers_8 : decode cX2_faultInLookers 8 = .ok (.iconst 4, 1) := by decide +kernel
theorem dX2_faultInLookers_9 : decode cX2_faultInLookers 9 = .ok (.invokestatic 30, 3) := by decide +kernel
theorem dX2_faultInLookers_12 : decode cX2_faultInLookers 12 = .ok (.istore_n 3, 1) := by decide +kernel
theorem dX2_faultInLookers_13 : decode cX2_faultInLookers 13 = .ok (.iconst 0, 1) := by decide +kernel
theorem dX2_faultInLookers_14 : decode cX2_faultInLookers 14 = .ok (.istore 4, 2) := by decide +kernel
theorem dX2_faultInLookers_16 : decode cX2_faultInLookers 16 = .ok (.iload 4, 2) := by decide +kernel
theorem dX2_faultInLookers_18 : decode cX2_faultInLookers 18 = .ok (.iload_n 3, 1) := by decide +kernel
theorem dX2_faultInLookers_19 : decode cX2_faultInLookers 19 = .ok (.if_icmp .gt 104, 3) := by decide +kernel
theorem dX2_faultInLookers_22 : decode cX2_faultInLookers 22 = .ok (.iload_n 2, 1) := by decide +kernel
theorem dX2_faultInLookers_23 : decode cX2_faultInLookers 23 = .ok (.iconst 3, 1) := by decide +kernel
theorem dX2_faultInLookers_24 : decode cX2_faultInLookers 24 = .ok (.iload 4, 2) := by decide +kernel
theorem dX2_faultInLookers_26 : decode cX2_faultInLookers 26 = .ok (.imul, 1) := by decide +kernel
theorem dX2_faultInLookers_27 : decode cX2_faultInLookers 27 = .ok (.iadd, 1) := by decide +kernel
theorem dX2_faultInLookers_28 : decode cX2_faultInLookers 28 = .ok (.istore 5, 2) := by decide +kernel
theorem dX2_faultInLookers_30 : decode cX2_faultInLookers 30 = .ok (.aload_n 0, 1) := by decide +kernel
theorem dX2_faultInLookers_31 : decode cX2_faultInLookers 31 = .ok (.iload_n 1, 1) := by decide +kernel
theorem dX2_faultInLookers_32 : decode cX2_faultInLookers 32 = .ok (.iload 5, 2) := by decide +kernel
theorem dX2_faultInLookers_34 : decode cX2_faultInLookers 34 = .ok (.invokestatic 9, 3) := by decide +kernel
theorem dX2_faultInLookers_37 : decode cX2_faultInLookers 37 = .ok (.istore 6, 2) := by decide +kernel
theorem dX2_faultInLookers_39 : decode cX2_faultInLookers 39 = .ok (.iload 6, 2) := by decide +kernel
theorem dX2_faultInLookers_41 : decode cX2_faultInLookers 41 = .ok (.bipush 47, 2) := by decide +kernel
theorem dX2_faultInLookers_43 : decode cX2_faultInLookers 43 = .ok (.if_icmp .ne 18, 3) := by decide +kernel
theorem dX2_faultInLookers_46 : decode cX2_faultInLookers 46 = .ok (.iload 4, 2) := by decide +kernel
theorem dX2_faultInLookers_48 : decode cX2_faultInLookers 48 = .ok (.ifCond .le 13, 3) := by decide +kernel
theorem dX2_faultInLookers_51 : decode cX2_faultInLookers 51 = .ok (.aload_n 0, 1) := by decide +kernel
theorem dX2_faultInLookers_52 : decode cX2_faultInLookers 52 = .ok (.iload_n 1, 1) := by decide +kernel
theorem dX2_faultInLookers_53 : decode cX2_faultInLookers 53 = .ok (.iload 5, 2) := by decide +kernel
theorem dX2_faultInLookers_55 : decode cX2_faultInLookers 55 = .ok (.iload 4, 2) := by decide +kernel
theorem dX2_faultInLookers_57 : decode cX2_faultInLookers 57 = .ok (.invokestatic 36, 3) := by decide +kernel
theorem dX2_faultInLookers_60 : decode cX2_faultInLookers 60 = .ok (.ireturn, 1) := by decide +kernel
theorem dX2_faultInLookers_61 : decode cX2_faultInLookers 61 = .ok (.iload 6, 2) := by decide +kernel
theorem dX2_faultInLookers_63 : decode cX2_faultInLookers 63 = .ok (.bipush 59, 2) := by decide +kernel
theorem dX2_faultInLookers_65 : decode cX2_faultInLookers 65 = .ok (.if_icmp .ne 9, 3) := by decide +kernel
theorem dX2_faultInLookers_68 : decode cX2_faultInLookers 68 = .ok (.iload 4, 2) := by decide +kernel
theorem dX2_faultInLookers_70 : decode cX2_faultInLookers 70 = .ok (.iload_n 3, 1) := by decide +kernel
theorem dX2_faultInLookers_71 : decode cX2_faultInLookers 71 = .ok (.if_icmp .ne 6, 3) := by decide +kernel
theorem dX2_faultInLookers_74 : decode cX2_faultInLookers 74 = .ok (.iload 5, 2) := by decide +kernel
theorem dX2_faultInLookers_76 : decode cX2_faultInLookers 76 = .ok (.ireturn, 1) := by decide +kernel
theorem dX2_faultInLookers_77 : decode cX2_faultInLookers 77 = .ok (.aload_n 0, 1) := by decide +kernel
theorem dX2_faultInLookers_78 : decode cX2_faultInLookers 78 = .ok (.iload_n 1, 1) := by decide +kernel
theorem dX2_faultInLookers_79 : decode cX2_faultInLookers 79 = .ok (.iload 5, 2) := by decide +kernel
theorem dX2_faultInLookers_81 : decode cX2_faultInLookers 81 = .ok (.iconst 1, 1) := by decide +kernel
theorem dX2_faultInLookers_82 : decode cX2_faultInLookers 82 = .ok (.iadd, 1) := by decide +kernel
theorem dX2_faultInLookers_83 : decode cX2_faultInLookers 83 = .ok (.invokestatic 9, 3) := by decide +kernel
theorem dX2_faultInLookers_86 : decode cX2_faultInLookers 86 = .ok (.invokestatic 40, 3) := by decide +kernel
theorem dX2_faultInLookers_89 : decode cX2_faultInLookers 89 = .ok (.ifCond .ge 8, 3) := by decide +kernel
theorem dX2_faultInLookers_92 : decode cX2_faultInLookers 92 = .ok (.iload 5, 2) := by decide +kernel
theorem dX2_faultInLookers_94 : decode cX2_faultInLookers 94 = .ok (.iconst 1, 1) := by decide +kernel
theorem dX2_faultInLookers_95 : decode cX2_faultInLookers 95 = .ok (.iadd, 1) := by decide +kernel
theorem dX2_faultInLookers_96 : decode cX2_faultInLookers 96 = .ok (.ireturn, 1) := by decide +kernel
theorem dX2_faultInLookers_97 : decode cX2_faultInLookers 97 = .ok (.aload_n 0, 1) := by decide +kernel
theorem dX2_faultInLookers_98 : decode cX2_faultInLookers 98 = .ok (.iload_n 1, 1) := by decide +kernel
theorem dX2_faultInLookers_99 : decode cX2_faultInLookers 99 = .ok (.iload 5, 2) := by decide +kernel
theorem dX2_faultInLookers_101 : decode cX2_faultInLookers 101 = .ok (.iconst 2, 1) := by decide +kernel
theorem dX2_faultInLookers_102 : decode cX2_faultInLookers 102 = .ok (.iadd, 1) := by decide +kernel
theorem dX2_faultInLookers_103 : decode cX2_faultInLookers 103 = .ok (.invokestatic 9, 3) := by decide +kernel
theorem dX2_faultInLookers_106 : decode cX2_faultInLookers 106 = .ok (.invokestatic 15, 3) := by decide +kernel
theorem dX2_faultInLookers_109 : decode cX2_faultInLookers 109 = .ok (.ifCond .ge 8, 3) := by decide +kernel
theorem dX2_faultInLookers_112 : decode cX2_faultInLookers 112 = .ok (.iload 5, 2) := by decide +kernel
theorem dX2_faultInLookers_114 : decode cX2_faultInLookers 114 = .ok (.iconst 2, 1) := by decide +kernel
theorem dX2_faultInLookers_115 : decode cX2_faultInLookers 115 = .ok (.iadd, 1) := by decide +kernel
theorem dX2_faultInLookers_116 : decode cX2_faultInLookers 116 = .ok (.ireturn, 1) := by decide +kernel
theorem dX2_faultInLookers_117 : decode cX2_faultInLookers 117 = .ok (.iinc 4 1, 3) := by decide +kernel
theorem dX2_faultInLookers_120 : decode cX2_faultInLookers 120 = .ok (.goto (-104), 3) := by decide +kernel
theorem dX2_faultInLookers_123 : decode cX2_faultInLookers 123 = .ok (.iload_n 2, 1) := by decide +kernel
theorem dX2_faultInLookers_124 : decode cX2_faultInLookers 124 = .ok (.ireturn, 1) := by decide +kernel
set_option maxRecDepth 20000 in
theorem tkX2_faultInLookers : ∀ q ∈ tbX2_faultInLookers, xOk (Zm true yX2_faultInLookers.name) RX2 cX2_faultInLookers 7 (some .int) pT pY q :=
  fa_c (ok_p (xg_load _ _ _) (x_aload_n dX2_faultInLookers_0 rfl)) <|
  fa_c (ok_p (xg_st _ _) (x_iconst dX2_faultInLookers_1 rfl)) <|
  fa_c (ok_c pT_119 pY_119 (x_callSN (n := 2) (host := "HullCharts") rfl (by decide +kernel) kw208 kw59 kw209 (by decide +kernel) dX2_faultInLookers_2)) <|
  fa_c (ok_c pT_58 pY_58 (x_callS (n := 1) rfl kw224 kw225 kw64 kw226 (by decide +kernel) dX2_faultInLookers_5)) <|
  fa_c (ok_p (xg_st _ _) (x_iconst dX2_faultInLookers_8 rfl)) <|
  fa_c (ok_p (xg_st _ _) (x_mmin (fun _ _ _ _ _ h => h.2 rfl) kw234 kw235 kw65 kw236 dX2_faultInLookers_9)) <|
  fa_c (ok_p (xg_store _ _ _) (x_istore_n dX2_faultInLookers_12 rfl)) <|
  fa_c (ok_p (xg_st _ _) (x_iconst dX2_faultInLookers_13 rfl)) <|
  fa_c (ok_p (xg_store _ _ _) (x_istore dX2_faultInLookers_14)) <|
  fa_c (ok_p (xg_clr _ (xg_load _ _ _)) (x_clr _ (x_iload dX2_faultInLookers_16))) <|
  fa_c (ok_p (xg_load _ _ _) (x_iload_n dX2_faultInLookers_18 rfl)) <|
  fa_c (ok_p (xg_icmp _ _ _) (x_icmp_gt dX2_faultInLookers_19 (by decide))) <|
  fa_c (ok_p (xg_load _ _ _) (x_iload_n dX2_faultInLookers_22 rfl)) <|
  fa_c (ok_p (xg_st _ _) (x_iconst dX2_faultInLookers_23 rfl)) <|
  fa_c (ok_p (xg_load _ _ _) (x_iload dX2_faultInLookers_24)) <|
  fa_c (ok_p (xg_st _ _) (x_imul dX2_faultInLookers_26)) <|
  fa_c (ok_p (xg_st _ _) (x_iadd dX2_faultInLookers_27)) <|
  fa_c (ok_p (xg_store _ _ _) (x_istore dX2_faultInLookers_28)) <|
  fa_c (ok_p (xg_load _ _ _) (x_aload_n dX2_faultInLookers_30 rfl)) <|
  fa_c (ok_p (xg_load _ _ _) (x_iload_n dX2_faultInLookers_31 rfl)) <|
  fa_c (ok_p (xg_load _ _ _) (x_iload dX2_faultInLookers_32)) <|
  fa_c (ok_c pT_56 pY_56 (x_callS (n := 3) rfl kw220 kw221 kw64 kw222 (by decide +kernel) dX2_faultInLookers_34)) <|
  fa_c (ok_p (xg_store _ _ _) (x_istore dX2_faultInLookers_37)) <|
  fa_c (ok_p (xg_load _ _ _) (x_iload dX2_faultInLookers_39)) <|
  fa_c (ok_p (xg_st _ _) (x_bipush dX2_faultInLookers_41 rfl)) <|
  fa_c (ok_p (xg_icmp _ _ _) (x_icmp_ne dX2_faultInLookers_43 (by decide))) <|
  fa_c (ok_p (xg_load _ _ _) (x_iload dX2_faultInLookers_46)) <|
  fa_c (ok_p (xg_if _ _ _) (x_if_le dX2_faultInLookers_48 (by decide))) <|
  fa_c (ok_p (xg_load _ _ _) (x_aload_n dX2_faultInLookers_51 rfl)) <|
  fa_c (ok_p (xg_load _ _ _) (x_iload_n dX2_faultInLookers_52 rfl)) <|
  fa_c (ok_p (xg_load _ _ _) (x_iload dX2_faultInLookers_53)) <|
  fa_c (ok_p (xg_load _ _ _) (x_iload dX2_faultInLookers_55)) <|
  fa_c (ok_c pT_55 pY_55 (x_callS (n := 4) rfl kw237 kw238 kw64 kw239 (by decide +kernel) dX2_faultInLookers_57)) <|
  fa_c (ok_r ⟨rfl, dX2_faultInLookers_60⟩) <|
  fa_c (ok_p (xg_load _ _ _) (x_iload dX2_faultInLookers_61)) <|
  fa_c (ok_p (xg_st _ _) (x_bipush dX2_faultInLookers_63 rfl)) <|
  fa_c (ok_p (xg_icmp _ _ _) (x_icmp_ne dX2_faultInLookers_65 (by decide))) <|
  fa_c (ok_p (xg_load _ _ _) (x_iload dX2_faultInLookers_68)) <|
  fa_c (ok_p (xg_load _ _ _) (x_iload_n dX2_faultInLookers_70 rfl)) <|
  fa_c (ok_p (xg_icmp _ _ _) (x_icmp_ne dX2_faultInLookers_71 (by decide))) <|
  fa_c (ok_p (xg_load _ _ _) (x_iload dX2_faultInLookers_74)) <|
  fa_c (ok_r ⟨rfl, dX2_faultInLookers_76⟩) <|
  fa_c (ok_p (xg_load _ _ _) (x_aload_n dX2_faultInLookers_77 rfl)) <|
  fa_c (ok_p (xg_load _ _ _) (x_iload_n dX2_faultInLookers_78 rfl)) <|
  fa_c (ok_p (xg_load _ _ _) (x_iload dX2_faultInLookers_79)) <|
  fa_c (ok_p (xg_st _ _) (x_iconst dX2_faultInLookers_81 rfl)) <|
  fa_c (ok_p (xg_st _ _) (x_iadd dX2_faultInLookers_82)) <|
  fa_c (ok_c pT_56 pY_56 (x_callS (n := 3) rfl kw220 kw221 kw64 kw222 (by decide +kernel) dX2_faultInLookers_83)) <|
  fa_c (ok_c pT_59 pY_59 (x_callS (n := 1) rfl kw240 kw241 kw64 kw242 (by decide +kernel) dX2_faultInLookers_86)) <|
  fa_c (ok_p (xg_if _ _ _) (x_if_ge dX2_faultInLookers_89 (by decide))) <|
  fa_c (ok_p (xg_load _ _ _) (x_iload dX2_faultInLookers_92)) <|
  fa_c (ok_p (xg_st _ _) (x_iconst dX2_faultInLookers_94 rfl)) <|
  fa_c (ok_p (xg_st _ _) (x_iadd dX2_faultInLookers_95)) <|
  fa_c (ok_r ⟨rfl, dX2_faultInLookers_96⟩) <|
  fa_c (ok_p (xg_load _ _ _) (x_aload_n dX2_faultInLookers_97 rfl)) <|
  fa_c (ok_p (xg_load _ _ _) (x_iload_n dX2_faultInLookers_98 rfl)) <|
  fa_c (ok_p (xg_load _ _ _) (x_iload dX2_faultInLookers_99)) <|
  fa_c (ok_p (xg_st _ _) (x_iconst dX2_faultInLookers_101 rfl)) <|
  fa_c (ok_p (xg_st _ _) (x_iadd dX2_faultInLookers_102)) <|
  fa_c (ok_c pT_56 pY_56 (x_callS (n := 3) rfl kw220 kw221 kw64 kw222 (by decide +kernel) dX2_faultInLookers_103)) <|
  fa_c (ok_c pT_58 pY_58 (x_callS (n := 1) rfl kw224 kw225 kw64 kw226 (by decide +kernel) dX2_faultInLookers_106)) <|
  fa_c (ok_p (xg_if _ _ _) (x_if_ge dX2_faultInLookers_109 (by decide))) <|
  fa_c (ok_p (xg_load _ _ _) (x_iload dX2_faultInLookers_112)) <|
  fa_c (ok_p (xg_st _ _) (x_iconst dX2_faultInLookers_114 rfl)) <|
  fa_c (ok_p (xg_st _ _) (x_iadd dX2_faultInLookers_115)) <|
  fa_c (ok_r ⟨rfl, dX2_faultInLookers_116⟩) <|
  fa_c (ok_p (xg_iinc _ _ _) (x_iinc dX2_faultInLookers_117 rfl)) <|
  fa_c (ok_p (xg_st _ _) (x_goto dX2_faultInLookers_120 (by decide))) <|
  fa_c (ok_p (xg_load _ _ _) (x_iload_n dX2_faultInLookers_123 rfl)) <|
  fa_c (ok_r ⟨rfl, dX2_faultInLookers_124⟩) <|
  fa_n
theorem dX2_faultInTail_0 : decode cX2_faultInTail 0 = .ok (.aload_n 0, 1) := by decide +kernel
theorem dX2_faultInTail_1 : decode cX2_faultInTail 1 = .ok (.iload_n 1, 1) := by decide +kernel
theorem dX2_faultInTail_2 : decode cX2_faultInTail 2 = .ok (.iload_n 2, 1) := by decide +kernel
theorem dX2_faultInTail_3 : decode cX2_faultInTail 3 = .ok (.iconst 1, 1) := by decide +kernel
theorem dX2_faultInTail_4 : decode cX2_faultInTail 4 = .ok (.iadd, 1) := by decide +kernel
theorem dX2_faultInTail_5 : decode cX2_faultInTail 5 = .ok (.invokestatic 9, 3) := by decide +kernel
theorem dX2_faultInTail_8 : decode cX2_faultInTail 8 = .ok (.invokestatic 15, 3) := by decide +kernel
theorem dX2_faultInTail_11 : decode cX2_faultInTail 11 = .ok (.istore 4, 2) := by decide +kernel
theorem dX2_faultInTail_13 : decode cX2_faultInTail 13 = .ok (.iload 4, 2) := by decide +kernel
theorem dX2_faultInTail_15 : decode cX2_faultInTail 15 = .ok (.ifCond .lt 18, 3) := by decide +kernel
theorem dX2_faultInTail_18 : decode cX2_faultInTail 18 = .ok (.iload 4, 2) := by decide +kernel
theorem dX2_faultInTail_20 : decode cX2_faultInTail 20 = .ok (.iload_n 3, 1) := by decide +kernel
theorem dX2_faultInTail_21 : decode cX2_faultInTail 21 = .ok (.iadd, 1) := by decide +kernel
theorem dX2_faultInTail_22 : decode cX2_faultInTail 22 = .ok (.aload_n 0, 1) := by decide +kernel
theorem dX2_faultInTail_23 : decode cX2_faultInTail 23 = .ok (.iconst 1, 1) := by decide +kernel
theorem dX2_faultInTail_24 : decode cX2_faultInTail 24 = .ok (.invokestatic 26, 3) := by decide +kernel
theorem dX2_faultInTail_27 : decode cX2_faultInTail 27 = .ok (.invokestatic 15, 3) := by decide +kernel
theorem dX2_faultInTail_30 : decode cX2_faultInTail 30 = .ok (.if_icmp .le 7, 3) := by decide +kernel
theorem dX2_faultInTail_33 : decode cX2_faultInTail 33 = .ok (.iload_n 2, 1) := by decide +kernel
theorem dX2_faultInTail_34 : decode cX2_faultInTail 34 = .ok (.iconst 1, 1) := by decide +kernel
theorem dX2_faultInTail_35 : decode cX2_faultInTail 35 = .ok (.iadd, 1) := by decide +kernel
theorem dX2_faultInTail_36 : decode cX2_faultInTail 36 = .ok (.ireturn, 1) := by decide +kernel
theorem dX2_faultInTail_37 : decode cX2_faultInTail 37 = .ok (.aload_n 0, 1) := by decide +kernel
theorem dX2_faultInTail_38 : decode cX2_faultInTail 38 = .ok (.iload_n 1, 1) := by decide +kernel
theorem dX2_faultInTail_39 : decode cX2_faultInTail 39 = .ok (.iload_n 2, 1) := by decide +kernel
theorem dX2_faultInTail_40 : decode cX2_faultInTail 40 = .ok (.iconst 2, 1) := by decide +kernel
theorem dX2_faultInTail_41 : decode cX2_faultInTail 41 = .ok (.iadd, 1) := by decide +kernel
theorem dX2_faultInTail_42 : decode cX2_faultInTail 42 = .ok (.invokestatic 9, 3) := by decide +kernel
theorem dX2_faultInTail_45 : decode cX2_faultInTail 45 = .ok (.invokestatic 15, 3) := by decide +kernel
theorem dX2_faultInTail_48 : decode cX2_faultInTail 48 = .ok (.istore 5, 2) := by decide +kernel
theorem dX2_faultInTail_50 : decode cX2_faultInTail 50 = .ok (.iload 5, 2) := by decide +kernel
theorem dX2_faultInTail_52 : decode cX2_faultInTail 52 = .ok (.ifCond .lt 16, 3) := by decide +kernel
theorem dX2_faultInTail_55 : decode cX2_faultInTail 55 = .ok (.iload 5, 2) := by decide +kernel
theorem dX2_faultInTail_57 : decode cX2_faultInTail 57 = .ok (.aload_n 0, 1) := by decide +kernel
theorem dX2_faultInTail_58 : decode cX2_faultInTail 58 = .ok (.iconst 2, 1) := by decide +kernel
theorem dX2_faultInTail_59 : decode cX2_faultInTail 59 = .ok (.invokestatic 26, 3) := by decide +kernel
theorem dX2_faultInTail_62 : decode cX2_faultInTail 62 = .ok (.invokestatic 15, 3) := by decide +kernel
theorem dX2_faultInTail_65 : decode cX2_faultInTail 65 = .ok (.if_icmp .lt 7, 3) := by decide +kernel
theorem dX2_faultInTail_68 : decode cX2_faultInTail 68 = .ok (.iload_n 2, 1) := by decide +kernel
theorem dX2_faultInTail_69 : decode cX2_faultInTail 69 = .ok (.iconst 2, 1) := by decide +kernel
theorem dX2_faultInTail_70 : decode cX2_faultInTail 70 = .ok (.iadd, 1) := by decide +kernel
theorem dX2_faultInTail_71 : decode cX2_faultInTail 71 = .ok (.ireturn, 1) := by decide +kernel
theorem dX2_faultInTail_72 : decode cX2_faultInTail 72 = .ok (.iload_n 2, 1) := by decide +kernel
theorem dX2_faultInTail_73 : decode cX2_faultInTail 73 = .ok (.iconst 3, 1) := by decide +kernel
theorem dX2_faultInTail_74 : decode cX2_faultInTail 74 = .ok (.iadd, 1) := by decide +kernel
theorem dX2_faultInTail_75 : decode cX2_faultInTail 75 = .ok (.iload_n 1, 1) := by decide +kernel
theorem dX2_faultInTail_76 : decode cX2_faultInTail 76 = .ok (.if_icmp .ne 7, 3) := by decide +kernel
theorem dX2_faultInTail_79 : decode cX2_faultInTail 79 = .ok (.iconst (-1), 1) := by decide +kernel
theorem dX2_faultInTail_80 : decode cX2_faultInTail 80 = .ok (.goto 6, 3) := by decide +kernel
theorem dX2_faultInTail_83 : decode cX2_faultInTail 83 = .ok (.iload_n 2, 1) := by decide +kernel
theorem dX2_faultInTail_84 : decode cX2_faultInTail 84 = .ok (.iconst 3, 1) := by decide +kernel
theorem dX2_faultInTail_85 : decode cX2_faultInTail 85 = .ok (.iadd, 1) := by decide +kernel
theorem dX2_faultInTail_86 : decode cX2_faultInTail 86 = .ok (.ireturn, 1) := by decide +kernel
set_option maxRecDepth 20000 in
theorem tkX2_faultInTail : ∀ q ∈ tbX2_faultInTail, xOk (Zm false yX2_faultInTail.name) RX2 cX2_faultInTail 6 (some .int) pT pY q :=
  fa_c (ok_p (xg_load _ _ _) (x_aload_n dX2_faultInTail_0 rfl)) <|
  fa_c (ok_p (xg_load _ _ _) (x_iload_n dX2_faultInTail_1 rfl)) <|
  fa_c (ok_p (xg_load _ _ _) (x_iload_n dX2_faultInTail_2 rfl)) <|
  fa_c (ok_p (xg_st _ _) (x_iconst dX2_faultInTail_3 rfl)) <|
  fa_c (ok_p (xg_st _ _) (x_iadd dX2_faultInTail_4)) <|
  fa_c (ok_c pT_56 pY_56 (x_callS (n := 3) rfl kw220 kw221 kw64 kw222 (by decide +kernel) dX2_faultInTail_5)) <|
  fa_c (ok_c pT_58 pY_58 (x_callS (n := 1) rfl kw224 kw225 kw64 kw226 (by decide +kernel) dX2_faultInTail_8)) <|
  fa_c (ok_p (xg_store _ _ _) (x_istore dX2_faultInTail_11)) <|
  fa_c (ok_p (xg_load _ _ _) (x_iload dX2_faultInTail_13)) <|
  fa_c (ok_p (xg_if _ _ _) (x_if_lt dX2_faultInTail_15 (by decide))) <|
  fa_c (ok_p (xg_load _ _ _) (x_iload dX2_faultInTail_18)) <|
  fa_c (ok_p (xg_load _ _ _) (x_iload_n dX2_faultInTail_20 rfl)) <|
  fa_c (ok_p (xg_st _ _) (x_iadd dX2_faultInTail_21)) <|
  fa_c (ok_p (xg_load _ _ _) (x_aload_n dX2_faultInTail_22 rfl)) <|
  fa_c (ok_p (xg_st _ _) (x_iconst dX2_faultInTail_23 rfl)) <|
  fa_c (ok_c pT_119 pY_119 (x_callSN (n := 2) (host := "HullCharts") rfl (by decide +kernel) kw208 kw59 kw209 (by decide +kernel) dX2_faultInTail_24)) <|
  fa_c (ok_c pT_58 pY_58 (x_callS (n := 1) rfl kw224 kw225 kw64 kw226 (by decide +kernel) dX2_faultInTail_27)) <|
  fa_c (ok_p (xg_icmp _ _ _) (x_icmp_le dX2_faultInTail_30 (by decide))) <|
  fa_c (ok_p (xg_load _ _ _) (x_iload_n dX2_faultInTail_33 rfl)) <|
  fa_c (ok_p (xg_st _ _) (x_iconst dX2_faultInTail_34 rfl)) <|
  fa_c (ok_p (xg_st _ _) (x_iadd dX2_faultInTail_35)) <|
  fa_c (ok_r ⟨rfl, dX2_faultInTail_36⟩) <|
  fa_c (ok_p (xg_load _ _ _) (x_aload_n dX2_faultInTail_37 rfl)) <|
  fa_c (ok_p (xg_load _ _ _) (x_iload_n dX2_faultInTail_38 rfl)) <|
  fa_c (ok_p (xg_load _ _ _) (x_iload_n dX2_faultInTail_39 rfl)) <|
  fa_c (ok_p (xg_st _ _) (x_iconst dX2_faultInTail_40 rfl)) <|
  fa_c (ok_p (xg_st _ _) (x_iadd dX2_faultInTail_41)) <|
  fa_c (ok_c pT_56 pY_56 (x_callS (n := 3) rfl kw220 kw221 kw64 kw222 (by decide +kernel) dX2_faultInTail_42)) <|
  fa_c (ok_c pT_58 pY_58 (x_callS (n := 1) rfl kw224 kw225 kw64 kw226 (by decide +kernel) dX2_faultInTail_45)) <|
  fa_c (ok_p (xg_store _ _ _) (x_istore dX2_faultInTail_48)) <|
  fa_c (ok_p (xg_load _ _ _) (x_iload dX2_faultInTail_50)) <|
  fa_c (ok_p (xg_if _ _ _) (x_if_lt dX2_faultInTail_52 (by decide))) <|
  fa_c (ok_p (xg_load _ _ _) (x_iload dX2_faultInTail_55)) <|
  fa_c (ok_p (xg_load _ _ _) (x_aload_n dX2_faultInTail_57 rfl)) <|
  fa_c (ok_p (xg_st _ _) (x_iconst dX2_faultInTail_58 rfl)) <|
  fa_c (ok_c pT_119 pY_119 (x_callSN (n := 2) (host := "HullCharts") rfl (by decide +kernel) kw208 kw59 kw209 (by decide +kernel) dX2_faultInTail_59)) <|
  fa_c (ok_c pT_58 pY_58 (x_callS (n := 1) rfl kw224 kw225 kw64 kw226 (by decide +kernel) dX2_faultInTail_62)) <|
  fa_c (ok_p (xg_icmp _ _ _) (x_icmp_lt dX2_faultInTail_65 (by decide))) <|
  fa_c (ok_p (xg_load _ _ _) (x_iload_n dX2_faultInTail_68 rfl)) <|
  fa_c (ok_p (xg_st _ _) (x_iconst dX2_faultInTail_69 rfl)) <|
  fa_c (ok_p (xg_st _ _) (x_iadd dX2_faultInTail_70)) <|
  fa_c (ok_r ⟨rfl, dX2_faultInTail_71⟩) <|
  fa_c (ok_p (xg_load _ _ _) (x_iload_n dX2_faultInTail_72 rfl)) <|
  fa_c (ok_p (xg_st _ _) (x_iconst dX2_faultInTail_73 rfl)) <|
  fa_c (ok_p (xg_st _ _) (x_iadd dX2_faultInTail_74)) <|
  fa_c (ok_p (xg_load _ _ _) (x_iload_n dX2_faultInTail_75 rfl)) <|
  fa_c (ok_p (xg_icmp _ _ _) (x_icmp_ne dX2_faultInTail_76 (by decide))) <|
  fa_c (ok_p (xg_st _ _) (x_iconst dX2_faultInTail_79 rfl)) <|
  fa_c (ok_p (xg_st _ _) (x_goto dX2_faultInTail_80 (by decide))) <|
  fa_c (ok_p (xg_load _ _ _) (x_iload_n dX2_faultInTail_83 rfl)) <|
  fa_c (ok_p (xg_st _ _) (x_iconst dX2_faultInTail_84 rfl)) <|
  fa_c (ok_p (xg_st _ _) (x_iadd dX2_faultInTail_85)) <|
  fa_c (ok_r ⟨rfl, dX2_faultInTail_86⟩) <|
  fa_n
theorem dX2_codeAt_0 : decode cX2_codeAt 0 = .ok (.iload_n 2, 1) := by decide +kernel
theorem dX2_codeAt_1 : decode cX2_codeAt 1 = .ok (.iload_n 1, 1) := by decide +kernel
theorem dX2_codeAt_2 : decode cX2_codeAt 2 = .ok (.if_icmp .ge 11, 3) := by decide +kernel
theorem dX2_codeAt_5 : decode cX2_codeAt 5 = .ok (.aload_n 0, 1) := by decide +kernel
theorem dX2_codeAt_6 : decode cX2_codeAt 6 = .ok (.iload_n 2, 1) := by decide +kernel
theorem dX2_codeAt_7 : decode cX2_codeAt 7 = .ok (.invokestatic 26, 3) := by decide +kernel
theorem dX2_codeAt_10 : decode cX2_codeAt 10 = .ok (.goto 4, 3) := by decide +kernel
theorem dX2_codeAt_13 : decode cX2_codeAt 13 = .ok (.iconst (-1), 1) := by decide +kernel
theorem dX2_codeAt_14 : decode cX2_codeAt 14 = .ok (.ireturn, 1) := by decide +kernel
set_option maxRecDepth 20000 in
theorem tkX2_codeAt : ∀ q ∈ tbX2_codeAt, xOk (Zm false yX2_codeAt.name) RX2 cX2_codeAt 3 (some .int) pT pY q :=
  fa_c (ok_p (xg_load _ _ _) (x_iload_n dX2_codeAt_0 rfl)) <|
  fa_c (ok_p (xg_load _ _ _) (x_iload_n dX2_codeAt_1 rfl)) <|
  fa_c (ok_p (xg_icmp _ _ _) (x_icmp_ge dX2_codeAt_2 (by decide))) <|
  fa_c (ok_p (xg_load _ _ _) (x_aload_n dX2_codeAt_5 rfl)) <|
  fa_c (ok_p (xg_load _ _ _) (x_iload_n dX2_codeAt_6 rfl)) <|
  fa_c (ok_c pT_119 pY_119 (x_callSN (n := 2) (host := "HullCharts") rfl (by decide +kernel) kw208 kw59 kw209 (by decide +kernel) dX2_codeAt_7)) <|
  fa_c (ok_p (xg_st _ _) (x_goto dX2_codeAt_10 (by decide))) <|
  fa_c (ok_p (xg_st _ _) (x_iconst dX2_codeAt_13 rfl)) <|
  fa_c (ok_r ⟨rfl, dX2_codeAt_14⟩) <|
  fa_n
theorem dX2_isEdge_0 : decode cX2_isEdge 0 = .ok (.iload_n 0, 1) := by decide +kernel
theorem dX2_isEdge_1 : decode cX2_isEdge 1 = .ok (.iconst 2, 1) := by decide +kernel
theorem dX2_isEdge_2 : decode cX2_isEdge 2 = .ok (.bipush 6, 2) := by decide +kernel
theorem dX2_isEdge_4 : decode cX2_isEdge 4 = .ok (.invokestatic 43, 3) := by decide +kernel
theorem dX2_isEdge_7 : decode cX2_isEdge 7 = .ok (.ireturn, 1) := by decide +kernel
set_option maxRecDepth 20000 in
theorem tkX2_isEdge : ∀ q ∈ tbX2_isEdge, xOk (Zm false yX2_isEdge.name) RX2 cX2_isEdge 1 (some .boolean) pT pY q :=
  fa_c (ok_p (xg_load _ _ _) (x_iload_n dX2_isEdge_0 rfl)) <|
  fa_c (ok_p (xg_st _ _) (x_iconst dX2_isEdge_1 rfl)) <|
  fa_c (ok_p (xg_st _ _) (x_bipush dX2_isEdge_2 rfl)) <|
  fa_c (ok_c pT_114 pY_114 (x_callSN (n := 3) (host := "HullCharts") rfl (by decide +kernel) kw182 kw59 kw183 (by decide +kernel) dX2_isEdge_4)) <|
  fa_c (ok_r ⟨rfl, dX2_isEdge_7⟩) <|
  fa_n
theorem dX2_digitOf_0 : decode cX2_digitOf 0 = .ok (.iload_n 0, 1) := by decide +kernel
theorem dX2_digitOf_1 : decode cX2_digitOf 1 = .ok (.bipush 48, 2) := by decide +kernel
theorem dX2_digitOf_3 : decode cX2_digitOf 3 = .ok (.bipush 57, 2) := by decide +kernel
theorem dX2_digitOf_5 : decode cX2_digitOf 5 = .ok (.invokestatic 43, 3) := by decide +kernel
theorem dX2_digitOf_8 : decode cX2_digitOf 8 = .ok (.ifCond .eq 10, 3) := by decide +kernel
theorem dX2_digitOf_11 : decode cX2_digitOf 11 = .ok (.iload_n 0, 1) := by decide +kernel
theorem dX2_digitOf_12 : decode cX2_digitOf 12 = .ok (.bipush 48, 2) := by decide +kernel
theorem dX2_digitOf_14 : decode cX2_digitOf 14 = .ok (.isub, 1) := by decide +kernel
theorem dX2_digitOf_15 : decode cX2_digitOf 15 = .ok (.goto 4, 3) := by decide +kernel
theorem dX2_digitOf_18 : decode cX2_digitOf 18 = .ok (.iconst (-1), 1) := by decide +kernel
theorem dX2_digitOf_19 : decode cX2_digitOf 19 = .ok (.ireturn, 1) := by decide +kernel
set_option maxRecDepth 20000 in
theorem tkX2_digitOf : ∀ q ∈ tbX2_digitOf, xOk (Zm false yX2_digitOf.name) RX2 cX2_digitOf 1 (some .int) pT pY q :=
  fa_c (ok_p (xg_load _ _ _) (x_iload_n dX2_digitOf_0 rfl)) <|
  fa_c (ok_p (xg_st _ _) (x_bipush dX2_digitOf_1 rfl)) <|
  fa_c (ok_p (xg_st _ _) (x_bipush dX2_digitOf_3 rfl)) <|
  fa_c (ok_c pT_114 pY_114 (x_callSN (n := 3) (host := "HullCharts") rfl (by decide +kernel) kw182 kw59 kw183 (by decide +kernel) dX2_digitOf_5)) <|
  fa_c (ok_p (xg_if _ _ _) (x_if_eq dX2_digitOf_8 (by decide))) <|
  fa_c (ok_p (xg_load _ _ _) (x_iload_n dX2_digitOf_11 rfl)) <|
  fa_c (ok_p (xg_st _ _) (x_bipush dX2_digitOf_12 rfl)) <|
  fa_c (ok_p (xg_st _ _) (x_isub dX2_digitOf_14)) <|
  fa_c (ok_p (xg_st _ _) (x_goto dX2_digitOf_15 (by decide))) <|
  fa_c (ok_p (xg_st _ _) (x_iconst dX2_digitOf_18 rfl)) <|
  fa_c (ok_r ⟨rfl, dX2_digitOf_19⟩) <|
  fa_n
theorem dX2_kindOf_0 : decode cX2_kindOf 0 = .ok (.iload_n 0, 1) := by decide +kernel
theorem dX2_kindOf_1 : decode cX2_kindOf 1 = .ok (.lookupswitch 41 #[(100, 37), (103, 39), (112, 35)], 35) := by decide +kernel
theorem dX2_kindOf_36 : decode cX2_kindOf 36 = .ok (.iconst 0, 1) := by decide +kernel
theorem dX2_kindOf_37 : decode cX2_kindOf 37 = .ok (.ireturn, 1) := by decide +kernel
theorem dX2_kindOf_38 : decode cX2_kindOf 38 = .ok (.iconst 1, 1) := by decide +kernel
theorem dX2_kindOf_39 : decode cX2_kindOf 39 = .ok (.ireturn, 1) := by decide +kernel
theorem dX2_kindOf_40 : decode cX2_kindOf 40 = .ok (.iconst 2, 1) := by decide +kernel
theorem dX2_kindOf_41 : decode cX2_kindOf 41 = .ok (.ireturn, 1) := by decide +kernel
theorem dX2_kindOf_42 : decode cX2_kindOf 42 = .ok (.iconst (-1), 1) := by decide +kernel
theorem dX2_kindOf_43 : decode cX2_kindOf 43 = .ok (.ireturn, 1) := by decide +kernel
set_option maxRecDepth 20000 in
theorem tkX2_kindOf : ∀ q ∈ tbX2_kindOf, xOk (Zm false yX2_kindOf.name) RX2 cX2_kindOf 1 (some .int) pT pY q :=
  fa_c (ok_p (xg_load _ _ _) (x_iload_n dX2_kindOf_0 rfl)) <|
  fa_c (ok_p (xg_sw _ _) (x_lsw dX2_kindOf_1 (by decide) (x_lsw_all _ _ _ (by decide +kernel) (by decide)))) <|
  fa_c (ok_p (xg_st _ _) (x_iconst dX2_kindOf_36 rfl)) <|
  fa_c (ok_r ⟨rfl, dX2_kindOf_37⟩) <|
  fa_c (ok_p (xg_st _ _) (x_iconst dX2_kindOf_38 rfl)) <|
  fa_c (ok_r ⟨rfl, dX2_kindOf_39⟩) <|
  fa_c (ok_p (xg_st _ _) (x_iconst dX2_kindOf_40 rfl)) <|
  fa_c (ok_r ⟨rfl, dX2_kindOf_41⟩) <|
  fa_c (ok_p (xg_st _ _) (x_iconst dX2_kindOf_42 rfl)) <|
  fa_c (ok_r ⟨rfl, dX2_kindOf_43⟩) <|
  fa_n
theorem dX3_init_0 : decode cX3_init 0 = .ok (.aload_n 0, 1) := by decide +kernel
theorem dX3_init_1 : decode cX3_init 1 = .ok (.invokespecial 3, 3) := by decide +kernel
theorem dX3_init_4 : decode cX3_init 4 = .ok (.aload_n 0, 1) := by decide +kernel
theorem dX3_init_5 : decode cX3_init 5 = .ok (.bipush 60, 2) := by decide +kernel
theorem dX3_init_7 : decode cX3_init 7 = .ok (.newarray .int, 2) := by decide +kernel
theorem dX3_init_9 : decode cX3_init 9 = .ok (.putfield 9, 3) := by decide +kernel
theorem dX3_init_12 : decode cX3_init 12 = .ok (.aload_n 0, 1) := by decide +kernel
theorem dX3_init_13 : decode cX3_init 13 = .ok (.iconst (-1), 1) := by decide +kernel
theorem dX3_init_14 : decode cX3_init 14 = .ok (.putfield 15, 3) := by decide +kernel
theorem dX3_init_17 : decode cX3_init 17 = .ok (.return_, 1) := by decide +kernel
set_option maxRecDepth 20000 in
theorem tkX3_init : ∀ q ∈ tbX3_init, xOk (Zm true yX3_init.name) RX3 cX3_init 1 (none) pT pY q :=
  fa_c (ok_p (xg_load _ _ _) (x_aload_n dX3_init_0 rfl)) <|
  fa_c (ok_p (xg_obj _) (x_obj (fun _ _ _ _ _ h => h.2 rfl) kw83 kw75 kw76 dX3_init_1)) <|
  fa_c (ok_p (xg_load _ _ _) (x_aload_n dX3_init_4 rfl)) <|
  fa_c (ok_p (xg_st _ _) (x_bipush dX3_init_5 rfl)) <|
  fa_c (ok_p (xg_newa _) (x_newa dX3_init_7 kw94)) <|
  fa_c (ok_p (xg_putf _ _ _ _) (x_putfof (C := RX3) (T := TX3) (N := 3) tyX3 tyX3_ok nmX3 rfl (by decide) inX3 kw84 dX3_init_9 (tyX3_ok 0 (by decide)) (fun _ _ _ _ _ h => Or.inr ⟨rfl, h.1, rfl⟩))) <|
  fa_c (ok_p (xg_load _ _ _) (x_aload_n dX3_init_12 rfl)) <|
  fa_c (ok_p (xg_st _ _) (x_iconst dX3_init_13 rfl)) <|
  fa_c (ok_p (xg_putf _ _ _ _) (x_putfof (C := RX3) (T := TX3) (N := 3) tyX3 tyX3_ok nmX3 rfl (by decide) inX3 kw85 dX3_init_14 (tyX3_ok 1 (by decide)) (fun _ _ _ _ _ _ => Or.inl rfl))) <|
  fa_c (ok_r ⟨rfl, dX3_init_17⟩) <|
  fa_n
theorem dX3_hasNothing_0 : decode cX3_hasNothing 0 = .ok (.aload_n 0, 1) := by decide +kernel
theorem dX3_hasNothing_1 : decode cX3_hasNothing 1 = .ok (.getfield 15, 3) := by decide +kernel
theorem dX3_hasNothing_4 : decode cX3_hasNothing 4 = .ok (.iconst (-1), 1) := by decide +kernel
theorem dX3_hasNothing_5 : decode cX3_hasNothing 5 = .ok (.if_icmp .ne 7, 3) := by decide +kernel
theorem dX3_hasNothing_8 : decode cX3_hasNothing 8 = .ok (.iconst 1, 1) := by decide +kernel
theorem dX3_hasNothing_9 : decode cX3_hasNothing 9 = .ok (.goto 4, 3) := by decide +kernel
theorem dX3_hasNothing_12 : decode cX3_hasNothing 12 = .ok (.iconst 0, 1) := by decide +kernel
theorem dX3_hasNothing_13 : decode cX3_hasNothing 13 = .ok (.ireturn, 1) := by decide +kernel
set_option maxRecDepth 20000 in
theorem tkX3_hasNothing : ∀ q ∈ tbX3_hasNothing, xOk (Zm false yX3_hasNothing.name) RX3 cX3_hasNothing 1 (some .boolean) pT pY q :=
  fa_c (ok_p (xg_load _ _ _) (x_aload_n dX3_hasNothing_0 rfl)) <|
  fa_c (ok_p (xg_getf _ _ _) (x_getf (C := RX3) (T := TX3) (N := 3) rfl (by decide) inX3 kw85 dX3_hasNothing_1)) <|
  fa_c (ok_p (xg_st _ _) (x_iconst dX3_hasNothing_4 rfl)) <|
  fa_c (ok_p (xg_icmp _ _ _) (x_icmp_ne dX3_hasNothing_5 (by decide))) <|
  fa_c (ok_p (xg_st _ _) (x_iconst dX3_hasNothing_8 rfl)) <|
  fa_c (ok_p (xg_st _ _) (x_goto dX3_hasNothing_9 (by decide))) <|
  fa_c (ok_p (xg_st _ _) (x_iconst dX3_hasNothing_12 rfl)) <|
  fa_c (ok_r ⟨rfl, dX3_hasNothing_13⟩) <|
  fa_n
theorem dX3_lane_0 : decode cX3_lane 0 = .ok (.aload_n 0, 1) := by decide +kernel
theorem dX3_lane_1 : decode cX3_lane 1 = .ok (.getfield 19, 3) := by decide +kernel
theorem dX3_lane_4 : decode cX3_lane 4 = .ok (.ireturn, 1) := by decide +kernel
set_option maxRecDepth 20000 in
theorem tkX3_lane : ∀ q ∈ tbX3_lane, xOk (Zm false yX3_lane.name) RX3 cX3_lane 1 (some .int) pT pY q :=
  fa_c (ok_p (xg_load _ _ _) (x_aload_n dX3_lane_0 rfl)) <|
  fa_c (ok_p (xg_getf _ _ _) (x_getf (C := RX3) (T := TX3) (N := 3) rfl (by decide) inX3 kw86 dX3_lane_1)) <|
  fa_c (ok_r ⟨rfl, dX3_lane_4⟩) <|
  fa_n
theorem dX3_hasCells_0 : decode cX3_hasCells 0 = .ok (.iload_n 1, 1) := by decide +kernel
theorem dX3_hasCells_1 : decode cX3_hasCells 1 = .ok (.ifCond .lt 21, 3) := by decide +kernel
theorem dX3_hasCells_4 : decode cX3_hasCells 4 = .ok (.iload_n 2, 1) := by decide +kernel
theorem dX3_hasCells_5 : decode cX3_hasCells 5 = .ok (.ifCond .lt 17, 3) := by decide +kernel
theorem dX3_hasCells_8 : decode cX3_hasCells 8 = .ok (.iload_n 1, 1) := by decide +kernel
theorem dX3_hasCells_9 : decode cX3_hasCells 9 = .ok (.aload_n 0, 1) := by decide +kernel
theorem dX3_hasCells_10 : decode cX3_hasCells 10 = .ok (.getfield 15, 3) := by decide +kernel
theorem dX3_hasCells_13 : decode cX3_hasCells 13 = .ok (.iload_n 2, 1) := by decide +kernel
theorem dX3_hasCells_14 : decode cX3_hasCells 14 = .ok (.isub, 1) := by decide +kernel
theorem dX3_hasCells_15 : decode cX3_hasCells 15 = .ok (.if_icmp .gt 7, 3) := by decide +kernel
theorem dX3_hasCells_18 : decode cX3_hasCells 18 = .ok (.iconst 1, 1) := by decide +kernel
theorem dX3_hasCells_19 : decode cX3_hasCells 19 = .ok (.goto 4, 3) := by decide +kernel
theorem dX3_hasCells_22 : decode cX3_hasCells 22 = .ok (.iconst 0, 1) := by decide +kernel
theorem dX3_hasCells_23 : decode cX3_hasCells 23 = .ok (.ireturn, 1) := by decide +kernel
set_option maxRecDepth 20000 in
theorem tkX3_hasCells : ∀ q ∈ tbX3_hasCells, xOk (Zm false yX3_hasCells.name) RX3 cX3_hasCells 3 (some .boolean) pT pY q :=
  fa_c (ok_p (xg_load _ _ _) (x_iload_n dX3_hasCells_0 rfl)) <|
  fa_c (ok_p (xg_if _ _ _) (x_if_lt dX3_hasCells_1 (by decide))) <|
  fa_c (ok_p (xg_load _ _ _) (x_iload_n dX3_hasCells_4 rfl)) <|
  fa_c (ok_p (xg_if _ _ _) (x_if_lt dX3_hasCells_5 (by decide))) <|
  fa_c (ok_p (xg_load _ _ _) (x_iload_n dX3_hasCells_8 rfl)) <|
  fa_c (ok_p (xg_load _ _ _) (x_aload_n dX3_hasCells_9 rfl)) <|
  fa_c (ok_p (xg_getf _ _ _) (x_getf (C := RX3) (T := TX3) (N := 3) rfl (by decide) inX3 kw85 dX3_hasCells_10)) <|
  fa_c (ok_p (xg_load _ _ _) (x_iload_n dX3_hasCells_13 rfl)) <|
  fa_c (ok_p (xg_st _ _) (x_isub dX3_hasCells_14)) <|
  fa_c (ok_p (xg_icmp _ _ _) (x_icmp_gt dX3_hasCells_15 (by decide))) <|
  fa_c (ok_p (xg_st _ _) (x_iconst dX3_hasCells_18 rfl)) <|
  fa_c (ok_p (xg_st _ _) (x_goto dX3_hasCells_19 (by decide))) <|
  fa_c (ok_p (xg_st _ _) (x_iconst dX3_hasCells_22 rfl)) <|
  fa_c (ok_r ⟨rfl, dX3_hasCells_23⟩) <|
  fa_n
theorem dX3_faultInTaking_0 : decode cX3_faultInTaking 0 = .ok (.aload_n 0, 1) := by decide +kernel
theorem dX3_faultInTaking_1 : decode cX3_faultInTaking 1 = .ok (.invokevirtual 22, 3) := by decide +kernel
theorem dX3_faultInTaking_4 : decode cX3_faultInTaking 4 = .ok (.ifCond .eq 5, 3) := by decide +kernel
theorem dX3_faultInTaking_7 : decode cX3_faultInTaking 7 = .ok (.iconst 1, 1) := by decide +kernel
theorem dX3_faultInTaking_8 : decode cX3_faultInTaking 8 = .ok (.ireturn, 1) := by decide +kernel
theorem dX3_faultInTaking_9 : decode cX3_faultInTaking 9 = .ok (.iload_n 1, 1) := by decide +kernel
theorem dX3_faultInTaking_10 : decode cX3_faultInTaking 10 = .ok (.aload_n 0, 1) := by decide +kernel
theorem dX3_faultInTaking_11 : decode cX3_faultInTaking 11 = .ok (.getfield 19, 3) := by decide +kernel
theorem dX3_faultInTaking_14 : decode cX3_faultInTaking 14 = .ok (.if_icmp .eq 5, 3) := by decide +kernel
theorem dX3_faultInTaking_17 : decode cX3_faultInTaking 17 = .ok (.iconst 2, 1) := by decide +kernel
theorem dX3_faultInTaking_18 : decode cX3_faultInTaking 18 = .ok (.ireturn, 1) := by decide +kernel
theorem dX3_faultInTaking_19 : decode cX3_faultInTaking 19 = .ok (.iload_n 3, 1) := by decide +kernel
theorem dX3_faultInTaking_20 : decode cX3_faultInTaking 20 = .ok (.ifCond .ge 5, 3) := by decide +kernel
theorem dX3_faultInTaking_23 : decode cX3_faultInTaking 23 = .ok (.iconst 4, 1) := by decide +kernel
theorem dX3_faultInTaking_24 : decode cX3_faultInTaking 24 = .ok (.ireturn, 1) := by decide +kernel
theorem dX3_faultInTaking_25 : decode cX3_faultInTaking 25 = .ok (.aload_n 0, 1) := by decide +kernel
theorem dX3_faultInTaking_26 : decode cX3_faultInTaking 26 = .ok (.iload_n 2, 1) := by decide +kernel
theorem dX3_faultInTaking_27 : decode cX3_faultInTaking 27 = .ok (.iload_n 3, 1) := by decide +kernel
theorem dX3_faultInTaking_28 : decode cX3_faultInTaking 28 = .ok (.invokevirtual 26, 3) := by decide +kernel
theorem dX3_faultInTaking_31 : decode cX3_faultInTaking 31 = .ok (.ifCond .eq 7, 3) := by decide +kernel
theorem dX3_faultInTaking_34 : decode cX3_faultInTaking 34 = .ok (.iconst 0, 1) := by decide +kernel
theorem dX3_faultInTaking_35 : decode cX3_faultInTaking 35 = .ok (.goto 4, 3) := by decide +kernel
theorem dX3_faultInTaking_38 : decode cX3_faultInTaking 38 = .ok (.iconst 3, 1) := by decide +kernel
theorem dX3_faultInTaking_39 : decode cX3_faultInTaking 39 = .ok (.ireturn, 1) := by decide +kernel
set_option maxRecDepth 20000 in
theorem tkX3_faultInTaking : ∀ q ∈ tbX3_faultInTaking, xOk (Zm false yX3_faultInTaking.name) RX3 cX3_faultInTaking 4 (some .int) pT pY q :=
  fa_c (ok_p (xg_load _ _ _) (x_aload_n dX3_faultInTaking_0 rfl)) <|
  fa_c (ok_c pT_61 pY_61 (x_callV (n := 0) (C := RX3) (T := TX3) (N := 3) rfl rfl kw192 kw193 kw194 kw60 kw195 (by decide +kernel) dX3_faultInTaking_1)) <|
  fa_c (ok_p (xg_if _ _ _) (x_if_eq dX3_faultInTaking_4 (by decide))) <|
  fa_c (ok_p (xg_st _ _) (x_iconst dX3_faultInTaking_7 rfl)) <|
  fa_c (ok_r ⟨rfl, dX3_faultInTaking_8⟩) <|
  fa_c (ok_p (xg_load _ _ _) (x_iload_n dX3_faultInTaking_9 rfl)) <|
  fa_c (ok_p (xg_load _ _ _) (x_aload_n dX3_faultInTaking_10 rfl)) <|
  fa_c (ok_p (xg_getf _ _ _) (x_getf (C := RX3) (T := TX3) (N := 3) rfl (by decide) inX3 kw86 dX3_faultInTaking_11)) <|
  fa_c (ok_p (xg_icmp _ _ _) (x_icmp_eq dX3_faultInTaking_14 (by decide))) <|
  fa_c (ok_p (xg_st _ _) (x_iconst dX3_faultInTaking_17 rfl)) <|
  fa_c (ok_r ⟨rfl, dX3_faultInTaking_18⟩) <|
  fa_c (ok_p (xg_load _ _ _) (x_iload_n dX3_faultInTaking_19 rfl)) <|
  fa_c (ok_p (xg_if _ _ _) (x_if_ge dX3_faultInTaking_20 (by decide))) <|
  fa_c (ok_p (xg_st _ _) (x_iconst dX3_faultInTaking_23 rfl)) <|
  fa_c (ok_r ⟨rfl, dX3_faultInTaking_24⟩) <|
  fa_c (ok_p (xg_load _ _ _) (x_aload_n dX3_faultInTaking_25 rfl)) <|
  fa_c (ok_p (xg_load _ _ _) (x_iload_n dX3_faultInTaking_26 rfl)) <|
  fa_c (ok_p (xg_load _ _ _) (x_iload_n dX3_faultInTaking_27 rfl)) <|
  fa_c (ok_c pT_63 pY_63 (x_callV (n := 2) (C := RX3) (T := TX3) (N := 3) rfl rfl kw196 kw197 kw198 kw60 kw199 (by decide +kernel) dX3_faultInTaking_28)) <|
  fa_c (ok_p (xg_if _ _ _) (x_if_eq dX3_faultInTaking_31 (by decide))) <|
  fa_c (ok_p (xg_st _ _) (x_iconst dX3_faultInTaking_34 rfl)) <|
  fa_c (ok_p (xg_st _ _) (x_goto dX3_faultInTaking_35 (by decide))) <|
  fa_c (ok_p (xg_st _ _) (x_iconst dX3_faultInTaking_38 rfl)) <|
  fa_c (ok_r ⟨rfl, dX3_faultInTaking_39⟩) <|
  fa_n
theorem dX3_renew_0 : decode cX3_renew 0 = .ok (.aload_n 0, 1) := by decide +kernel
theorem dX3_renew_1 : decode cX3_renew 1 = .ok (.iload_n 1, 1) := by decide +kernel
theorem dX3_renew_2 : decode cX3_renew 2 = .ok (.putfield 19, 3) := by decide +kernel
theorem dX3_renew_5 : decode cX3_renew 5 = .ok (.aload_n 0, 1) := by decide +kernel
theorem dX3_renew_6 : decode cX3_renew 6 = .ok (.iload_n 2, 1) := by decide +kernel
theorem dX3_renew_7 : decode cX3_renew 7 = .ok (.putfield 15, 3) := by decide +kernel
theorem dX3_renew_10 : decode cX3_renew 10 = .ok (.aload_n 0, 1) := by decide +kernel
theorem dX3_renew_11 : decode cX3_renew 11 = .ok (.getfield 9, 3) := by decide +kernel
theorem dX3_renew_14 : decode cX3_renew 14 = .ok (.iconst 0, 1) := by decide +kernel
theorem dX3_renew_15 : decode cX3_renew 15 = .ok (.invokestatic 30, 3) := by decide +kernel
theorem dX3_renew_18 : decode cX3_renew 18 = .ok (.return_, 1) := by decide +kernel
set_option maxRecDepth 20000 in
theorem tkX3_renew : ∀ q ∈ tbX3_renew, xOk (Zm false yX3_renew.name) RX3 cX3_renew 3 (none) pT pY q :=
  fa_c (ok_p (xg_load _ _ _) (x_aload_n dX3_renew_0 rfl)) <|
  fa_c (ok_p (xg_load _ _ _) (x_iload_n dX3_renew_1 rfl)) <|
  fa_c (ok_p (xg_putf _ _ _ _) (x_putfof (C := RX3) (T := TX3) (N := 3) tyX3 tyX3_ok nmX3 rfl (by decide) inX3 kw86 dX3_renew_2 (tyX3_ok 2 (by decide)) (fun _ _ _ _ _ _ => Or.inl rfl))) <|
  fa_c (ok_p (xg_load _ _ _) (x_aload_n dX3_renew_5 rfl)) <|
  fa_c (ok_p (xg_load _ _ _) (x_iload_n dX3_renew_6 rfl)) <|
  fa_c (ok_p (xg_putf _ _ _ _) (x_putfof (C := RX3) (T := TX3) (N := 3) tyX3 tyX3_ok nmX3 rfl (by decide) inX3 kw85 dX3_renew_7 (tyX3_ok 1 (by decide)) (fun _ _ _ _ _ _ => Or.inl rfl))) <|
  fa_c (ok_p (xg_load _ _ _) (x_aload_n dX3_renew_10 rfl)) <|
  fa_c (ok_p (xg_getf _ _ _) (x_getf (C := RX3) (T := TX3) (N := 3) rfl (by decide) inX3 kw84 dX3_renew_11)) <|
  fa_c (ok_p (xg_st _ _) (x_iconst dX3_renew_14 rfl)) <|
  fa_c (ok_c pT_196 pY_196 (x_callS (n := 2) rfl kw574 kw575 kw68 kw576 (by decide +kernel) dX3_renew_15)) <|
  fa_c (ok_r ⟨rfl, dX3_renew_18⟩) <|
  fa_n
theorem dX3_clear_0 : decode cX3_clear 0 = .ok (.aload_n 0, 1) := by decide +kernel
theorem dX3_clear_1 : decode cX3_clear 1 = .ok (.iconst (-1), 1) := by decide +kernel
theorem dX3_clear_2 : decode cX3_clear 2 = .ok (.putfield 15, 3) := by decide +kernel
theorem dX3_clear_5 : decode cX3_clear 5 = .ok (.return_, 1) := by decide +kernel
set_option maxRecDepth 20000 in
theorem tkX3_clear : ∀ q ∈ tbX3_clear, xOk (Zm false yX3_clear.name) RX3 cX3_clear 1 (none) pT pY q :=
  fa_c (ok_p (xg_load _ _ _) (x_aload_n dX3_clear_0 rfl)) <|
  fa_c (ok_p (xg_st _ _) (x_iconst dX3_clear_1 rfl)) <|
  fa_c (ok_p (xg_putf _ _ _ _) (x_putfof (C := RX3) (T := TX3) (N := 3) tyX3 tyX3_ok nmX3 rfl (by decide) inX3 kw85 dX3_clear_2 (tyX3_ok 1 (by decide)) (fun _ _ _ _ _ _ => Or.inl rfl))) <|
  fa_c (ok_r ⟨rfl, dX3_clear_5⟩) <|
  fa_n
theorem dX3_read_0 : decode cX3_read 0 = .ok (.aload_n 0, 1) := by decide +kernel
theorem dX3_read_1 : decode cX3_read 1 = .ok (.getfield 9, 3) := by decide +kernel
theorem dX3_read_4 : decode cX3_read 4 = .ok (.iload_n 1, 1) := by decide +kernel
theorem dX3_read_5 : decode cX3_read 5 = .ok (.invokestatic 36, 3) := by decide +kernel
theorem dX3_read_8 : decode cX3_read 8 = .ok (.ireturn, 1) := by decide +kernel
set_option maxRecDepth 20000 in
theorem tkX3_read : ∀ q ∈ tbX3_read, xOk (Zm false yX3_read.name) RX3 cX3_read 2 (some .int) pT pY q :=
  fa_c (ok_p (xg_load _ _ _) (x_aload_n dX3_read_0 rfl)) <|
  fa_c (ok_p (xg_getf _ _ _) (x_getf (C := RX3) (T := TX3) (N := 3) rfl (by decide) inX3 kw84 dX3_read_1)) <|
  fa_c (ok_p (xg_load _ _ _) (x_iload_n dX3_read_4 rfl)) <|
  fa_c (ok_c pT_119 pY_119 (x_callSN (n := 2) (host := "HullCharts") rfl (by decide +kernel) kw208 kw59 kw209 (by decide +kernel) dX3_read_5)) <|
  fa_c (ok_r ⟨rfl, dX3_read_8⟩) <|
  fa_n
theorem dX3_write_0 : decode cX3_write 0 = .ok (.aload_n 0, 1) := by decide +kernel
theorem dX3_write_1 : decode cX3_write 1 = .ok (.getfield 9, 3) := by decide +kernel
theorem dX3_write_4 : decode cX3_write 4 = .ok (.iload_n 1, 1) := by decide +kernel
theorem dX3_write_5 : decode cX3_write 5 = .ok (.aload_n 0, 1) := by decide +kernel
theorem dX3_write_6 : decode cX3_write 6 = .ok (.iload_n 2, 1) := by decide +kernel
theorem dX3_write_7 : decode cX3_write 7 = .ok (.invokevirtual 40, 3) := by decide +kernel
theorem dX3_write_10 : decode cX3_write 10 = .ok (.invokestatic 44, 3) := by decide +kernel
theorem dX3_write_13 : decode cX3_write 13 = .ok (.return_, 1) := by decide +kernel
set_option maxRecDepth 20000 in
theorem tkX3_write : ∀ q ∈ tbX3_write, xOk (Zm false yX3_write.name) RX3 cX3_write 3 (none) pT pY q :=
  fa_c (ok_p (xg_load _ _ _) (x_aload_n dX3_write_0 rfl)) <|
  fa_c (ok_p (xg_getf _ _ _) (x_getf (C := RX3) (T := TX3) (N := 3) rfl (by decide) inX3 kw84 dX3_write_1)) <|
  fa_c (ok_p (xg_load _ _ _) (x_iload_n dX3_write_4 rfl)) <|
  fa_c (ok_p (xg_load _ _ _) (x_aload_n dX3_write_5 rfl)) <|
  fa_c (ok_p (xg_load _ _ _) (x_iload_n dX3_write_6 rfl)) <|
  fa_c (ok_c pT_69 pY_69 (x_callV (n := 1) (C := RX3) (T := TX3) (N := 3) rfl rfl kw595 kw597 kw19 kw60 kw598 (by decide +kernel) dX3_write_7)) <|
  fa_c (ok_c pT_120 pY_120 (x_callSN (n := 3) (host := "HullCharts") rfl (by decide +kernel) kw211 kw59 kw212 (by decide +kernel) dX3_write_10)) <|
  fa_c (ok_r ⟨rfl, dX3_write_13⟩) <|
  fa_n
theorem dX3_cutToLane_0 : decode cX3_cutToLane 0 = .ok (.aload_n 0, 1) := by decide +kernel
theorem dX3_cutToLane_1 : decode cX3_cutToLane 1 = .ok (.getfield 19, 3) := by decide +kernel
theorem dX3_cutToLane_4 : decode cX3_cutToLane 4 = .ok (.ifCond .ne 6, 3) := by decide +kernel
theorem dX3_cutToLane_7 : decode cX3_cutToLane 7 = .ok (.iload_n 1, 1) := by decide +kernel
theorem dX3_cutToLane_8 : decode cX3_cutToLane 8 = .ok (.i2b, 1) := by decide +kernel
theorem dX3_cutToLane_9 : decode cX3_cutToLane 9 = .ok (.ireturn, 1) := by decide +kernel
theorem dX3_cutToLane_10 : decode cX3_cutToLane 10 = .ok (.aload_n 0, 1) := by decide +kernel
theorem dX3_cutToLane_11 : decode cX3_cutToLane 11 = .ok (.getfield 19, 3) := by decide +kernel
theorem dX3_cutToLane_14 : decode cX3_cutToLane 14 = .ok (.iconst 1, 1) := by decide +kernel
theorem dX3_cutToLane_15 : decode cX3_cutToLane 15 = .ok (.if_icmp .ne 8, 3) := by decide +kernel
theorem dX3_cutToLane_18 : decode cX3_cutToLane 18 = .ok (.iload_n 1, 1) := by decide +kernel
theorem dX3_cutToLane_19 : decode cX3_cutToLane 19 = .ok (.i2s, 1) := by decide +kernel
theorem dX3_cutToLane_20 : decode cX3_cutToLane 20 = .ok (.goto 4, 3) := by decide +kernel
theorem dX3_cutToLane_23 : decode cX3_cutToLane 23 = .ok (.iload_n 1, 1) := by decide +kernel
theorem dX3_cutToLane_24 : decode cX3_cutToLane 24 = .ok (.ireturn, 1) := by decide +kernel
set_option maxRecDepth 20000 in
theorem tkX3_cutToLane : ∀ q ∈ tbX3_cutToLane, xOk (Zm false yX3_cutToLane.name) RX3 cX3_cutToLane 2 (some .int) pT pY q :=
  fa_c (ok_p (xg_load _ _ _) (x_aload_n dX3_cutToLane_0 rfl)) <|
  fa_c (ok_p (xg_getf _ _ _) (x_getf (C := RX3) (T := TX3) (N := 3) rfl (by decide) inX3 kw86 dX3_cutToLane_1)) <|
  fa_c (ok_p (xg_if _ _ _) (x_if_ne dX3_cutToLane_4 (by decide))) <|
  fa_c (ok_p (xg_load _ _ _) (x_iload_n dX3_cutToLane_7 rfl)) <|
  fa_c (ok_p (xg_st _ _) (x_i2b dX3_cutToLane_8)) <|
  fa_c (ok_r ⟨rfl, dX3_cutToLane_9⟩) <|
  fa_c (ok_p (xg_load _ _ _) (x_aload_n dX3_cutToLane_10 rfl)) <|
  fa_c (ok_p (xg_getf _ _ _) (x_getf (C := RX3) (T := TX3) (N := 3) rfl (by decide) inX3 kw86 dX3_cutToLane_11)) <|
  fa_c (ok_p (xg_st _ _) (x_iconst dX3_cutToLane_14 rfl)) <|
  fa_c (ok_p (xg_icmp _ _ _) (x_icmp_ne dX3_cutToLane_15 (by decide))) <|
  fa_c (ok_p (xg_load _ _ _) (x_iload_n dX3_cutToLane_18 rfl)) <|
  fa_c (ok_p (xg_st _ _) (x_i2s dX3_cutToLane_19)) <|
  fa_c (ok_p (xg_st _ _) (x_goto dX3_cutToLane_20 (by decide))) <|
  fa_c (ok_p (xg_load _ _ _) (x_iload_n dX3_cutToLane_23 rfl)) <|
  fa_c (ok_r ⟨rfl, dX3_cutToLane_24⟩) <|
  fa_n
theorem dJ6_bitCount_0f7a4_0 : decode cJ6_bitCount_0f7a4 0 = .ok (.iload_n 0, 1) := by decide +kernel
theorem dJ6_bitCount_0f7a4_1 : decode cJ6_bitCount_0f7a4 1 = .ok (.iload_n 0, 1) := by decide +kernel
theorem dJ6_bitCount_0f7a4_2 : decode cJ6_bitCount_0f7a4 2 = .ok (.iconst 1, 1) := by decide +kernel
theorem dJ6_bitCount_0f7a4_3 : decode cJ6_bitCount_0f7a4 3 = .ok (.iushr, 1) := by decide +kernel
theorem dJ6_bitCount_0f7a4_4 : decode cJ6_bitCount_0f7a4 4 = .ok (.ldc_w 265, 3) := by decide +kernel
theorem dJ6_bitCount_0f7a4_7 : decode cJ6_bitCount_0f7a4 7 = .ok (.iand, 1) := by decide +kernel
theorem dJ6_bitCount_0f7a4_8 : decode cJ6_bitCount_0f7a4 8 = .ok (.isub, 1) := by decide +kernel
theorem dJ6_bitCount_0f7a4_9 : decode cJ6_bitCount_0f7a4 9 = .ok (.istore_n 0, 1) := by decide +kernel
theorem dJ6_bitCount_0f7a4_10 : decode cJ6_bitCount_0f7a4 10 = .ok (.iload_n 0, 1) := by decide +kernel
theorem dJ6_bitCount_0f7a4_11 : decode cJ6_bitCount_0f7a4 11 = .ok (.ldc_w 266, 3) := by decide +kernel
theorem dJ6_bitCount_0f7a4_14 : decode cJ6_bitCount_0f7a4 14 = .ok (.iand, 1) := by decide +kernel
theorem dJ6_bitCount_0f7a4_15 : decode cJ6_bitCount_0f7a4 15 = .ok (.iload_n 0, 1) := by decide +kernel
theorem dJ6_bitCount_0f7a4_16 : decode cJ6_bitCount_0f7a4 16 = .ok (.iconst 2, 1) := by decide +kernel
theorem dJ6_bitCount_0f7a4_17 : decode cJ6_bitCount_0f7a4 17 = .ok (.iushr, 1) := by decide +kernel
theorem dJ6_bitCount_0f7a4_18 : decode cJ6_bitCount_0f7a4 18 = .ok (.ldc_w 266, 3) := by decide +kernel
theorem dJ6_bitCount_0f7a4_21 : decode cJ6_bitCount_0f7a4 21 = .ok (.iand, 1) := by decide +kernel
theorem dJ6_bitCount_0f7a4_22 : decode cJ6_bitCount_0f7a4 22 = .ok (.iadd, 1) := by decide +kernel
theorem dJ6_bitCount_0f7a4_23 : decode cJ6_bitCount_0f7a4 23 = .ok (.istore_n 0, 1) := by decide +kernel
theorem dJ6_bitCount_0f7a4_24 : decode cJ6_bitCount_0f7a4 24 = .ok (.iload_n 0, 1) := by decide +kernel
theorem dJ6_bitCount_0f7a4_25 : decode cJ6_bitCount_0f7a4 25 = .ok (.iload_n 0, 1) := by decide +kernel
theorem dJ6_bitCount_0f7a4_26 : decode cJ6_bitCount_0f7a4 26 = .ok (.iconst 4, 1) := by decide +kernel
theorem dJ6_bitCount_0f7a4_27 : decode cJ6_bitCount_0f7a4 27 = .ok (.iushr, 1) := by decide +kernel
theorem dJ6_bitCount_0f7a4_28 : decode cJ6_bitCount_0f7a4 28 = .ok (.iadd, 1) := by decide +kernel
theorem dJ6_bitCount_0f7a4_29 : decode cJ6_bitCount_0f7a4 29 = .ok (.ldc_w 267, 3) := by decide +kernel
theorem dJ6_bitCount_0f7a4_32 : decode cJ6_bitCount_0f7a4 32 = .ok (.iand, 1) := by decide +kernel
theorem dJ6_bitCount_0f7a4_33 : decode cJ6_bitCount_0f7a4 33 = .ok (.istore_n 0, 1) := by decide +kernel
theorem dJ6_bitCount_0f7a4_34 : decode cJ6_bitCount_0f7a4 34 = .ok (.iload_n 0, 1) := by decide +kernel
theorem dJ6_bitCount_0f7a4_35 : decode cJ6_bitCount_0f7a4 35 = .ok (.iload_n 0, 1) := by decide +kernel
theorem dJ6_bitCount_0f7a4_36 : decode cJ6_bitCount_0f7a4 36 = .ok (.bipush 8, 2) := by decide +kernel
theorem dJ6_bitCount_0f7a4_38 : decode cJ6_bitCount_0f7a4 38 = .ok (.iushr, 1) := by decide +kernel
theorem dJ6_bitCount_0f7a4_39 : decode cJ6_bitCount_0f7a4 39 = .ok (.iadd, 1) := by decide +kernel
theorem dJ6_bitCount_0f7a4_40 : decode cJ6_bitCount_0f7a4 40 = .ok (.istore_n 0, 1) := by decide +kernel
theorem dJ6_bitCount_0f7a4_41 : decode cJ6_bitCount_0f7a4 41 = .ok (.iload_n 0, 1) := by decide +kernel
theorem dJ6_bitCount_0f7a4_42 : decode cJ6_bitCount_0f7a4 42 = .ok (.iload_n 0, 1) := by decide +kernel
theorem dJ6_bitCount_0f7a4_43 : decode cJ6_bitCount_0f7a4 43 = .ok (.bipush 16, 2) := by decide +kernel
theorem dJ6_bitCount_0f7a4_45 : decode cJ6_bitCount_0f7a4 45 = .ok (.iushr, 1) := by decide +kernel
theorem dJ6_bitCount_0f7a4_46 : decode cJ6_bitCount_0f7a4 46 = .ok (.iadd, 1) := by decide +kernel
theorem dJ6_bitCount_0f7a4_47 : decode cJ6_bitCount_0f7a4 47 = .ok (.istore_n 0, 1) := by decide +kernel
theorem dJ6_bitCount_0f7a4_48 : decode cJ6_bitCount_0f7a4 48 = .ok (.iload_n 0, 1) := by decide +kernel
theorem dJ6_bitCount_0f7a4_49 : decode cJ6_bitCount_0f7a4 49 = .ok (.bipush 63, 2) := by decide +kernel
theorem dJ6_bitCount_0f7a4_51 : decode cJ6_bitCount_0f7a4 51 = .ok (.iand, 1) := by decide +kernel
theorem dJ6_bitCount_0f7a4_52 : decode cJ6_bitCount_0f7a4 52 = .ok (.ireturn, 1) := by decide +kernel
set_option maxRecDepth 20000 in
theorem tkJ6_bitCount_0f7a4 : ∀ q ∈ tbJ6_bitCount_0f7a4, xOk (Zm false yJ6_bitCount_0f7a4.name) RJ6 cJ6_bitCount_0f7a4 1 (some .int) pT pY q :=
  fa_c (ok_p (xg_load _ _ _) (x_iload_n dJ6_bitCount_0f7a4_0 rfl)) <|
  fa_c (ok_p (xg_load _ _ _) (x_iload_n dJ6_bitCount_0f7a4_1 rfl)) <|
  fa_c (ok_p (xg_st _ _) (x_iconst dJ6_bitCount_0f7a4_2 rfl)) <|
  fa_c (ok_p (xg_st _ _) (x_iushr dJ6_bitCount_0f7a4_3)) <|
  fa_c (ok_p (xg_st _ _) (x_ldcw dJ6_bitCount_0f7a4_4 kw352)) <|
  fa_c (ok_p (xg_st _ _) (x_iand dJ6_bitCount_0f7a4_7)) <|
  fa_c (ok_p (xg_st _ _) (x_isub dJ6_bitCount_0f7a4_8)) <|
  fa_c (ok_p (xg_store _ _ _) (x_istore_n dJ6_bitCount_0f7a4_9 rfl)) <|
  fa_c (ok_p (xg_load _ _ _) (x_iload_n dJ6_bitCount_0f7a4_10 rfl)) <|
  fa_c (ok_p (xg_st _ _) (x_ldcw dJ6_bitCount_0f7a4_11 kw353)) <|
  fa_c (ok_p (xg_st _ _) (x_iand dJ6_bitCount_0f7a4_14)) <|
  fa_c (ok_p (xg_load _ _ _) (x_iload_n dJ6_bitCount_0f7a4_15 rfl)) <|
  fa_c (ok_p (xg_st _ _) (x_iconst dJ6_bitCount_0f7a4_16 rfl)) <|
  fa_c (ok_p (xg_st _ _) (x_iushr dJ6_bitCount_0f7a4_17)) <|
  fa_c (ok_p (xg_st _ _) (x_ldcw dJ6_bitCount_0f7a4_18 kw353)) <|
  fa_c (ok_p (xg_st _ _) (x_iand dJ6_bitCount_0f7a4_21)) <|
  fa_c (ok_p (xg_st _ _) (x_iadd dJ6_bitCount_0f7a4_22)) <|
  fa_c (ok_p (xg_store _ _ _) (x_istore_n dJ6_bitCount_0f7a4_23 rfl)) <|
  fa_c (ok_p (xg_load _ _ _) (x_iload_n dJ6_bitCount_0f7a4_24 rfl)) <|
  fa_c (ok_p (xg_load _ _ _) (x_iload_n dJ6_bitCount_0f7a4_25 rfl)) <|
  fa_c (ok_p (xg_st _ _) (x_iconst dJ6_bitCount_0f7a4_26 rfl)) <|
  fa_c (ok_p (xg_st _ _) (x_iushr dJ6_bitCount_0f7a4_27)) <|
  fa_c (ok_p (xg_st _ _) (x_iadd dJ6_bitCount_0f7a4_28)) <|
  fa_c (ok_p (xg_st _ _) (x_ldcw dJ6_bitCount_0f7a4_29 kw354)) <|
  fa_c (ok_p (xg_st _ _) (x_iand dJ6_bitCount_0f7a4_32)) <|
  fa_c (ok_p (xg_store _ _ _) (x_istore_n dJ6_bitCount_0f7a4_33 rfl)) <|
  fa_c (ok_p (xg_load _ _ _) (x_iload_n dJ6_bitCount_0f7a4_34 rfl)) <|
  fa_c (ok_p (xg_load _ _ _) (x_iload_n dJ6_bitCount_0f7a4_35 rfl)) <|
  fa_c (ok_p (xg_st _ _) (x_bipush dJ6_bitCount_0f7a4_36 rfl)) <|
  fa_c (ok_p (xg_st _ _) (x_iushr dJ6_bitCount_0f7a4_38)) <|
  fa_c (ok_p (xg_st _ _) (x_iadd dJ6_bitCount_0f7a4_39)) <|
  fa_c (ok_p (xg_store _ _ _) (x_istore_n dJ6_bitCount_0f7a4_40 rfl)) <|
  fa_c (ok_p (xg_load _ _ _) (x_iload_n dJ6_bitCount_0f7a4_41 rfl)) <|
  fa_c (ok_p (xg_load _ _ _) (x_iload_n dJ6_bitCount_0f7a4_42 rfl)) <|
  fa_c (ok_p (xg_st _ _) (x_bipush dJ6_bitCount_0f7a4_43 rfl)) <|
  fa_c (ok_p (xg_st _ _) (x_iushr dJ6_bitCount_0f7a4_45)) <|
  fa_c (ok_p (xg_st _ _) (x_iadd dJ6_bitCount_0f7a4_46)) <|
  fa_c (ok_p (xg_store _ _ _) (x_istore_n dJ6_bitCount_0f7a4_47 rfl)) <|
  fa_c (ok_p (xg_load _ _ _) (x_iload_n dJ6_bitCount_0f7a4_48 rfl)) <|
  fa_c (ok_p (xg_st _ _) (x_bipush dJ6_bitCount_0f7a4_49 rfl)) <|
  fa_c (ok_p (xg_st _ _) (x_iand dJ6_bitCount_0f7a4_51)) <|
  fa_c (ok_r ⟨rfl, dJ6_bitCount_0f7a4_52⟩) <|
  fa_n
theorem dJ13_bitCount_95d88_0 : decode cJ13_bitCount_95d88 0 = .ok (.lload_n 0, 1) := by decide +kernel
theorem dJ13_bitCount_95d88_1 : decode cJ13_bitCount_95d88 1 = .ok (.lload_n 0, 1) := by decide +kernel
theorem dJ13_bitCount_95d88_2 : decode cJ13_bitCount_95d88 2 = .ok (.iconst 1, 1) := by decide +kernel
theorem dJ13_bitCount_95d88_3 : decode cJ13_bitCount_95d88 3 = .ok (.lushr, 1) := by decide +kernel
theorem dJ13_bitCount_95d88_4 : decode cJ13_bitCount_95d88 4 = .ok (.ldc2_w 314, 3) := by decide +kernel
theorem dJ13_bitCount_95d88_7 : decode cJ13_bitCount_95d88 7 = .ok (.land, 1) := by decide +kernel
theorem dJ13_bitCount_95d88_8 : decode cJ13_bitCount_95d88 8 = .ok (.lsub, 1) := by decide +kernel
theorem dJ13_bitCount_95d88_9 : decode cJ13_bitCount_95d88 9 = .ok (.lstore_n 0, 1) := by decide +kernel
theorem dJ13_bitCount_95d88_10 : decode cJ13_bitCount_95d88 10 = .ok (.lload_n 0, 1) := by decide +kernel
theorem dJ13_bitCount_95d88_11 : decode cJ13_bitCount_95d88 11 = .ok (.ldc2_w 316, 3) := by decide +kernel
theorem dJ13_bitCount_95d88_14 : decode cJ13_bitCount_95d88 14 = .ok (.land, 1) := by decide +kernel
theorem dJ13_bitCount_95d88_15 : decode cJ13_bitCount_95d88 15 = .ok (.lload_n 0, 1) := by decide +kernel
theorem dJ13_bitCount_95d88_16 : decode cJ13_bitCount_95d88 16 = .ok (.iconst 2, 1) := by decide +kernel
theorem dJ13_bitCount_95d88_17 : decode cJ13_bitCount_95d88 17 = .ok (.lushr, 1) := by decide +kernel
theorem dJ13_bitCount_95d88_18 : decode cJ13_bitCount_95d88 18 = .ok (.ldc2_w 316, 3) := by decide +kernel
theorem dJ13_bitCount_95d88_21 : decode cJ13_bitCount_95d88 21 = .ok (.land, 1) := by decide +kernel
theorem dJ13_bitCount_95d88_22 : decode cJ13_bitCount_95d88 22 = .ok (.ladd, 1) := by decide +kernel
theorem dJ13_bitCount_95d88_23 : decode cJ13_bitCount_95d88 23 = .ok (.lstore_n 0, 1) := by decide +kernel
theorem dJ13_bitCount_95d88_24 : decode cJ13_bitCount_95d88 24 = .ok (.lload_n 0, 1) := by decide +kernel
theorem dJ13_bitCount_95d88_25 : decode cJ13_bitCount_95d88 25 = .ok (.lload_n 0, 1) := by decide +kernel
theorem dJ13_bitCount_95d88_26 : decode cJ13_bitCount_95d88 26 = .ok (.iconst 4, 1) := by decide +kernel
theorem dJ13_bitCount_95d88_27 : decode cJ13_bitCount_95d88 27 = .ok (.lushr, 1) := by decide +kernel
theorem dJ13_bitCount_95d88_28 : decode cJ13_bitCount_95d88 28 = .ok (.ladd, 1) := by decide +kernel
theorem dJ13_bitCount_95d88_29 : decode cJ13_bitCount_95d88 29 = .ok (.ldc2_w 318, 3) := by decide +kernel
theorem dJ13_bitCount_95d88_32 : decode cJ13_bitCount_95d88 32 = .ok (.land, 1) := by decide +kernel
theorem dJ13_bitCount_95d88_33 : decode cJ13_bitCount_95d88 33 = .ok (.lstore_n 0, 1) := by decide +kernel
theorem dJ13_bitCount_95d88_34 : decode cJ13_bitCount_95d88 34 = .ok (.lload_n 0, 1) := by decide +kernel
theorem dJ13_bitCount_95d88_35 : decode cJ13_bitCount_95d88 35 = .ok (.lload_n 0, 1) := by decide +kernel
theorem dJ13_bitCount_95d88_36 : decode cJ13_bitCount_95d88 36 = .ok (.bipush 8, 2) := by decide +kernel
theorem dJ13_bitCount_95d88_38 : decode cJ13_bitCount_95d88 38 = .ok (.lushr, 1) := by decide +kernel
theorem dJ13_bitCount_95d88_39 : decode cJ13_bitCount_95d88 39 = .ok (.ladd, 1) := by decide +kernel
theorem dJ13_bitCount_95d88_40 : decode cJ13_bitCount_95d88 40 = .ok (.lstore_n 0, 1) := by decide +kernel
theorem dJ13_bitCount_95d88_41 : decode cJ13_bitCount_95d88 41 = .ok (.lload_n 0, 1) := by decide +kernel
theorem dJ13_bitCount_95d88_42 : decode cJ13_bitCount_95d88 42 = .ok (.lload_n 0, 1) := by decide +kernel
theorem dJ13_bitCount_95d88_43 : decode cJ13_bitCount_95d88 43 = .ok (.bipush 16, 2) := by decide +kernel
theorem dJ13_bitCount_95d88_45 : decode cJ13_bitCount_95d88 45 = .ok (.lushr, 1) := by decide +kernel
theorem dJ13_bitCount_95d88_46 : decode cJ13_bitCount_95d88 46 = .ok (.ladd, 1) := by decide +kernel
theorem dJ13_bitCount_95d88_47 : decode cJ13_bitCount_95d88 47 = .ok (.lstore_n 0, 1) := by decide +kernel
theorem dJ13_bitCount_95d88_48 : decode cJ13_bitCount_95d88 48 = .ok (.lload_n 0, 1) := by decide +kernel
theorem dJ13_bitCount_95d88_49 : decode cJ13_bitCount_95d88 49 = .ok (.lload_n 0, 1) := by decide +kernel
theorem dJ13_bitCount_95d88_50 : decode cJ13_bitCount_95d88 50 = .ok (.bipush 32, 2) := by decide +kernel
theorem dJ13_bitCount_95d88_52 : decode cJ13_bitCount_95d88 52 = .ok (.lushr, 1) := by decide +kernel
theorem dJ13_bitCount_95d88_53 : decode cJ13_bitCount_95d88 53 = .ok (.ladd, 1) := by decide +kernel
theorem dJ13_bitCount_95d88_54 : decode cJ13_bitCount_95d88 54 = .ok (.lstore_n 0, 1) := by decide +kernel
theorem dJ13_bitCount_95d88_55 : decode cJ13_bitCount_95d88 55 = .ok (.lload_n 0, 1) := by decide +kernel
theorem dJ13_bitCount_95d88_56 : decode cJ13_bitCount_95d88 56 = .ok (.l2i, 1) := by decide +kernel
theorem dJ13_bitCount_95d88_57 : decode cJ13_bitCount_95d88 57 = .ok (.bipush 127, 2) := by decide +kernel
theorem dJ13_bitCount_95d88_59 : decode cJ13_bitCount_95d88 59 = .ok (.iand, 1) := by decide +kernel
theorem dJ13_bitCount_95d88_60 : decode cJ13_bitCount_95d88 60 = .ok (.ireturn, 1) := by decide +kernel
set_option maxRecDepth 20000 in
theorem tkJ13_bitCount_95d88 : ∀ q ∈ tbJ13_bitCount_95d88, xOk (Zm false yJ13_bitCount_95d88.name) RJ13 cJ13_bitCount_95d88 2 (some .int) pT pY q :=
  fa_c (ok_p (xg_load _ _ _) (x_lload_n dJ13_bitCount_95d88_0 rfl)) <|
  fa_c (ok_p (xg_load _ _ _) (x_lload_n dJ13_bitCount_95d88_1 rfl)) <|
  fa_c (ok_p (xg_st _ _) (x_iconst dJ13_bitCount_95d88_2 rfl)) <|
  fa_c (ok_p (xg_st _ _) (x_lushr dJ13_bitCount_95d88_3)) <|
  fa_c (ok_p (xg_st _ _) (x_ldc2 dJ13_bitCount_95d88_4 kw398)) <|
  fa_c (ok_p (xg_st _ _) (x_land dJ13_bitCount_95d88_7)) <|
  fa_c (ok_p (xg_st _ _) (x_lsub dJ13_bitCount_95d88_8)) <|
  fa_c (ok_p (xg_store _ _ _) (x_lstore_n dJ13_bitCount_95d88_9 rfl)) <|
  fa_c (ok_p (xg_load _ _ _) (x_lload_n dJ13_bitCount_95d88_10 rfl)) <|
  fa_c (ok_p (xg_st _ _) (x_ldc2 dJ13_bitCount_95d88_11 kw399)) <|
  fa_c (ok_p (xg_st _ _) (x_land dJ13_bitCount_95d88_14)) <|
  fa_c (ok_p (xg_load _ _ _) (x_lload_n dJ13_bitCount_95d88_15 rfl)) <|
  fa_c (ok_p (xg_st _ _) (x_iconst dJ13_bitCount_95d88_16 rfl)) <|
  fa_c (ok_p (xg_st _ _) (x_lushr dJ13_bitCount_95d88_17)) <|
  fa_c (ok_p (xg_st _ _) (x_ldc2 dJ13_bitCount_95d88_18 kw399)) <|
  fa_c (ok_p (xg_st _ _) (x_land dJ13_bitCount_95d88_21)) <|
  fa_c (ok_p (xg_st _ _) (x_ladd dJ13_bitCount_95d88_22)) <|
  fa_c (ok_p (xg_store _ _ _) (x_lstore_n dJ13_bitCount_95d88_23 rfl)) <|
  fa_c (ok_p (xg_load _ _ _) (x_lload_n dJ13_bitCount_95d88_24 rfl)) <|
  fa_c (ok_p (xg_load _ _ _) (x_lload_n dJ13_bitCount_95d88_25 rfl)) <|
  fa_c (ok_p (xg_st _ _) (x_iconst dJ13_bitCount_95d88_26 rfl)) <|
  fa_c (ok_p (xg_st _ _) (x_lushr dJ13_bitCount_95d88_27)) <|
  fa_c (ok_p (xg_st _ _) (x_ladd dJ13_bitCount_95d88_28)) <|
  fa_c (ok_p (xg_st _ _) (x_ldc2 dJ13_bitCount_95d88_29 kw400)) <|
  fa_c (ok_p (xg_st _ _) (x_land dJ13_bitCount_95d88_32)) <|
  fa_c (ok_p (xg_store _ _ _) (x_lstore_n dJ13_bitCount_95d88_33 rfl)) <|
  fa_c (ok_p (xg_load _ _ _) (x_lload_n dJ13_bitCount_95d88_34 rfl)) <|
  fa_c (ok_p (xg_load _ _ _) (x_lload_n dJ13_bitCount_95d88_35 rfl)) <|
  fa_c (ok_p (xg_st _ _) (x_bipush dJ13_bitCount_95d88_36 rfl)) <|
  fa_c (ok_p (xg_st _ _) (x_lushr dJ13_bitCount_95d88_38)) <|
  fa_c (ok_p (xg_st _ _) (x_ladd dJ13_bitCount_95d88_39)) <|
  fa_c (ok_p (xg_store _ _ _) (x_lstore_n dJ13_bitCount_95d88_40 rfl)) <|
  fa_c (ok_p (xg_load _ _ _) (x_lload_n dJ13_bitCount_95d88_41 rfl)) <|
  fa_c (ok_p (xg_load _ _ _) (x_lload_n dJ13_bitCount_95d88_42 rfl)) <|
  fa_c (ok_p (xg_st _ _) (x_bipush dJ13_bitCount_95d88_43 rfl)) <|
  fa_c (ok_p (xg_st _ _) (x_lushr dJ13_bitCount_95d88_45)) <|
  fa_c (ok_p (xg_st _ _) (x_ladd dJ13_bitCount_95d88_46)) <|
  fa_c (ok_p (xg_store _ _ _) (x_lstore_n dJ13_bitCount_95d88_47 rfl)) <|
  fa_c (ok_p (xg_load _ _ _) (x_lload_n dJ13_bitCount_95d88_48 rfl)) <|
  fa_c (ok_p (xg_load _ _ _) (x_lload_n dJ13_bitCount_95d88_49 rfl)) <|
  fa_c (ok_p (xg_st _ _) (x_bipush dJ13_bitCount_95d88_50 rfl)) <|
  fa_c (ok_p (xg_st _ _) (x_lushr dJ13_bitCount_95d88_52)) <|
  fa_c (ok_p (xg_st _ _) (x_ladd dJ13_bitCount_95d88_53)) <|
  fa_c (ok_p (xg_store _ _ _) (x_lstore_n dJ13_bitCount_95d88_54 rfl)) <|
  fa_c (ok_p (xg_load _ _ _) (x_lload_n dJ13_bitCount_95d88_55 rfl)) <|
  fa_c (ok_p (xg_st _ _) (x_l2i dJ13_bitCount_95d88_56)) <|
  fa_c (ok_p (xg_st _ _) (x_bipush dJ13_bitCount_95d88_57 rfl)) <|
  fa_c (ok_p (xg_st _ _) (x_iand dJ13_bitCount_95d88_59)) <|
  fa_c (ok_r ⟨rfl, dJ13_bitCount_95d88_60⟩) <|
  fa_n
theorem dJ7_fill_53178_0 : decode cJ7_fill_53178 0 = .ok (.iconst 0, 1) := by decide +kernel
theorem dJ7_fill_53178_1 : decode cJ7_fill_53178 1 = .ok (.istore_n 2, 1) := by decide +kernel
theorem dJ7_fill_53178_2 : decode cJ7_fill_53178 2 = .ok (.aload_n 0, 1) := by decide +kernel
theorem dJ7_fill_53178_3 : decode cJ7_fill_53178 3 = .ok (.arraylength, 1) := by decide +kernel
theorem dJ7_fill_53178_4 : decode cJ7_fill_53178 4 = .ok (.istore_n 3, 1) := by decide +kernel
theorem dJ7_fill_53178_5 : decode cJ7_fill_53178 5 = .ok (.iload_n 2, 1) := by decide +kernel
theorem dJ7_fill_53178_6 : decode cJ7_fill_53178 6 = .ok (.iload_n 3, 1) := by decide +kernel
theorem dJ7_fill_53178_7 : decode cJ7_fill_53178 7 = .ok (.if_icmp .ge 13, 3) := by decide +kernel
theorem dJ7_fill_53178_10 : decode cJ7_fill_53178 10 = .ok (.aload_n 0, 1) := by decide +kernel
theorem dJ7_fill_53178_11 : decode cJ7_fill_53178 11 = .ok (.iload_n 2, 1) := by decide +kernel
theorem dJ7_fill_53178_12 : decode cJ7_fill_53178 12 = .ok (.iload_n 1, 1) := by decide +kernel
theorem dJ7_fill_53178_13 : decode cJ7_fill_53178 13 = .ok (.iastore, 1) := by decide +kernel
theorem dJ7_fill_53178_14 : decode cJ7_fill_53178 14 = .ok (.iinc 2 1, 3) := by decide +kernel
theorem dJ7_fill_53178_17 : decode cJ7_fill_53178 17 = .ok (.goto (-12), 3) := by decide +kernel
theorem dJ7_fill_53178_20 : decode cJ7_fill_53178 20 = .ok (.return_, 1) := by decide +kernel
set_option maxRecDepth 20000 in
theorem tkJ7_fill_53178 : ∀ q ∈ tbJ7_fill_53178, xOk (Zm false yJ7_fill_53178.name) RJ7 cJ7_fill_53178 4 (none) pT pY q :=
  fa_c (ok_p (xg_st _ _) (x_iconst dJ7_fill_53178_0 rfl)) <|
  fa_c (ok_p (xg_store _ _ _) (x_istore_n dJ7_fill_53178_1 rfl)) <|
  fa_c (ok_p (xg_load _ _ _) (x_aload_n dJ7_fill_53178_2 rfl)) <|
  fa_c (ok_p (xg_alen _) (x_alen dJ7_fill_53178_3)) <|
  fa_c (ok_p (xg_store _ _ _) (x_istore_n dJ7_fill_53178_4 rfl)) <|
  fa_c (ok_p (xg_load _ _ _) (x_iload_n dJ7_fill_53178_5 rfl)) <|
  fa_c (ok_p (xg_load _ _ _) (x_iload_n dJ7_fill_53178_6 rfl)) <|
  fa_c (ok_p (xg_icmp _ _ _) (x_icmp_ge dJ7_fill_53178_7 (by decide))) <|
  fa_c (ok_p (xg_load _ _ _) (x_aload_n dJ7_fill_53178_10 rfl)) <|
  fa_c (ok_p (xg_load _ _ _) (x_iload_n dJ7_fill_53178_11 rfl)) <|
  fa_c (ok_p (xg_load _ _ _) (x_iload_n dJ7_fill_53178_12 rfl)) <|
  fa_c (ok_p (xg_iast _) (x_iast dJ7_fill_53178_13)) <|
  fa_c (ok_p (xg_iinc _ _ _) (x_iinc dJ7_fill_53178_14 rfl)) <|
  fa_c (ok_p (xg_st _ _) (x_goto dJ7_fill_53178_17 (by decide))) <|
  fa_c (ok_r ⟨rfl, dJ7_fill_53178_20⟩) <|
  fa_n
