/-! the tables are the methods' code: by program -/
theorem dX5_init_0 : decode cX5_init 0 = .ok (.aload_n 0, 1) := by decide +kernel
theorem dX5_init_1 : decode cX5_init 1 = .ok (.invokespecial 1, 3) := by decide +kernel
theorem dX5_init_4 : decode cX5_init 4 = .ok (.aload_n 0, 1) := by decide +kernel
theorem dX5_init_5 : decode cX5_init 5 = .ok (.bipush 36, 2) := by decide +kernel
theorem dX5_init_7 : decode cX5_init 7 = .ok (.newarray .int, 2) := by decide +kernel
theorem dX5_init_9 : decode cX5_init 9 = .ok (.putfield 7, 3) := by decide +kernel
theorem dX5_init_12 : decode cX5_init 12 = .ok (.aload_n 0, 1) := by decide +kernel
theorem dX5_init_13 : decode cX5_init 13 = .ok (.iconst 4, 1) := by decide +kernel
theorem dX5_init_14 : decode cX5_init 14 = .ok (.newarray .int, 2) := by decide +kernel
theorem dX5_init_16 : decode cX5_init 16 = .ok (.putfield 13, 3) := by decide +kernel
theorem dX5_init_19 : decode cX5_init 19 = .ok (.aload_n 0, 1) := by decide +kernel
theorem dX5_init_20 : decode cX5_init 20 = .ok (.iconst 4, 1) := by decide +kernel
theorem dX5_init_21 : decode cX5_init 21 = .ok (.newarray .int, 2) := by decide +kernel
theorem dX5_init_23 : decode cX5_init 23 = .ok (.putfield 16, 3) := by decide +kernel
theorem dX5_init_26 : decode cX5_init 26 = .ok (.aload_n 0, 1) := by decide +kernel
theorem dX5_init_27 : decode cX5_init 27 = .ok (.bipush 36, 2) := by decide +kernel
theorem dX5_init_29 : decode cX5_init 29 = .ok (.newarray .int, 2) := by decide +kernel
theorem dX5_init_31 : decode cX5_init 31 = .ok (.putfield 19, 3) := by decide +kernel
theorem dX5_init_34 : decode cX5_init 34 = .ok (.aload_n 0, 1) := by decide +kernel
theorem dX5_init_35 : decode cX5_init 35 = .ok (.iconst 4, 1) := by decide +kernel
theorem dX5_init_36 : decode cX5_init 36 = .ok (.newarray .int, 2) := by decide +kernel
theorem dX5_init_38 : decode cX5_init 38 = .ok (.putfield 22, 3) := by decide +kernel
theorem dX5_init_41 : decode cX5_init 41 = .ok (.aload_n 0, 1) := by decide +kernel
theorem dX5_init_42 : decode cX5_init 42 = .ok (.iconst 4, 1) := by decide +kernel
theorem dX5_init_43 : decode cX5_init 43 = .ok (.newarray .int, 2) := by decide +kernel
theorem dX5_init_45 : decode cX5_init 45 = .ok (.putfield 25, 3) := by decide +kernel
theorem dX5_init_48 : decode cX5_init 48 = .ok (.aload_n 0, 1) := by decide +kernel
theorem dX5_init_49 : decode cX5_init 49 = .ok (.bipush 36, 2) := by decide +kernel
theorem dX5_init_51 : decode cX5_init 51 = .ok (.newarray .int, 2) := by decide +kernel
theorem dX5_init_53 : decode cX5_init 53 = .ok (.putfield 28, 3) := by decide +kernel
theorem dX5_init_56 : decode cX5_init 56 = .ok (.aload_n 0, 1) := by decide +kernel
theorem dX5_init_57 : decode cX5_init 57 = .ok (.bipush 8, 2) := by decide +kernel
theorem dX5_init_59 : decode cX5_init 59 = .ok (.newarray .int, 2) := by decide +kernel
theorem dX5_init_61 : decode cX5_init 61 = .ok (.putfield 31, 3) := by decide +kernel
theorem dX5_init_64 : decode cX5_init 64 = .ok (.aload_n 0, 1) := by decide +kernel
theorem dX5_init_65 : decode cX5_init 65 = .ok (.bipush 8, 2) := by decide +kernel
theorem dX5_init_67 : decode cX5_init 67 = .ok (.newarray .int, 2) := by decide +kernel
theorem dX5_init_69 : decode cX5_init 69 = .ok (.putfield 34, 3) := by decide +kernel
theorem dX5_init_72 : decode cX5_init 72 = .ok (.aload_n 0, 1) := by decide +kernel
theorem dX5_init_73 : decode cX5_init 73 = .ok (.bipush 8, 2) := by decide +kernel
theorem dX5_init_75 : decode cX5_init 75 = .ok (.newarray .int, 2) := by decide +kernel
theorem dX5_init_77 : decode cX5_init 77 = .ok (.putfield 37, 3) := by decide +kernel
theorem dX5_init_80 : decode cX5_init 80 = .ok (.aload_n 0, 1) := by decide +kernel
theorem dX5_init_81 : decode cX5_init 81 = .ok (.iconst 4, 1) := by decide +kernel
theorem dX5_init_82 : decode cX5_init 82 = .ok (.newarray .int, 2) := by decide +kernel
theorem dX5_init_84 : decode cX5_init 84 = .ok (.putfield 40, 3) := by decide +kernel
theorem dX5_init_87 : decode cX5_init 87 = .ok (.aload_n 0, 1) := by decide +kernel
theorem dX5_init_88 : decode cX5_init 88 = .ok (.iconst 4, 1) := by decide +kernel
theorem dX5_init_89 : decode cX5_init 89 = .ok (.newarray .int, 2) := by decide +kernel
theorem dX5_init_91 : decode cX5_init 91 = .ok (.putfield 43, 3) := by decide +kernel
theorem dX5_init_94 : decode cX5_init 94 = .ok (.aload_n 0, 1) := by decide +kernel
theorem dX5_init_95 : decode cX5_init 95 = .ok (.sipush 240, 3) := by decide +kernel
theorem dX5_init_98 : decode cX5_init 98 = .ok (.newarray .int, 2) := by decide +kernel
theorem dX5_init_100 : decode cX5_init 100 = .ok (.putfield 46, 3) := by decide +kernel
theorem dX5_init_103 : decode cX5_init 103 = .ok (.aload_n 0, 1) := by decide +kernel
theorem dX5_init_104 : decode cX5_init 104 = .ok (.bipush 60, 2) := by decide +kernel
theorem dX5_init_106 : decode cX5_init 106 = .ok (.newarray .int, 2) := by decide +kernel
theorem dX5_init_108 : decode cX5_init 108 = .ok (.putfield 49, 3) := by decide +kernel
theorem dX5_init_111 : decode cX5_init 111 = .ok (.iconst 0, 1) := by decide +kernel
theorem dX5_init_112 : decode cX5_init 112 = .ok (.istore_n 1, 1) := by decide +kernel
theorem dX5_init_113 : decode cX5_init 113 = .ok (.iload_n 1, 1) := by decide +kernel
theorem dX5_init_114 : decode cX5_init 114 = .ok (.iconst 4, 1) := by decide +kernel
theorem dX5_init_115 : decode cX5_init 115 = .ok (.if_icmp .ge 16, 3) := by decide +kernel
theorem dX5_init_118 : decode cX5_init 118 = .ok (.aload_n 0, 1) := by decide +kernel
theorem dX5_init_119 : decode cX5_init 119 = .ok (.getfield 40, 3) := by decide +kernel
theorem dX5_init_122 : decode cX5_init 122 = .ok (.iload_n 1, 1) := by decide +kernel
theorem dX5_init_123 : decode cX5_init 123 = .ok (.iconst (-1), 1) := by decide +kernel
theorem dX5_init_124 : decode cX5_init 124 = .ok (.iastore, 1) := by decide +kernel
theorem dX5_init_125 : decode cX5_init 125 = .ok (.iinc 1 1, 3) := by decide +kernel
theorem dX5_init_128 : decode cX5_init 128 = .ok (.goto (-15), 3) := by decide +kernel
theorem dX5_init_131 : decode cX5_init 131 = .ok (.return_, 1) := by decide +kernel
set_option maxRecDepth 20000 in
theorem tkX5_init : ∀ q ∈ tbX5_init, xOk (Zm true yX5_init.name) RX5 cX5_init 2 (none) pT pY q :=
  fa_c (ok_p (xg_load _ _ _) (x_aload_n dX5_init_0 rfl)) <|
  fa_c (ok_p (xg_obj _) (x_obj (fun _ _ _ _ _ h => h.2 rfl) kw677 kw75 kw76 dX5_init_1)) <|
  fa_c (ok_p (xg_load _ _ _) (x_aload_n dX5_init_4 rfl)) <|
  fa_c (ok_p (xg_st _ _) (x_bipush dX5_init_5 rfl)) <|
  fa_c (ok_p (xg_newa _) (x_newa dX5_init_7 kw94)) <|
  fa_c (ok_p (xg_putf _ _ _ _) (x_putfof (C := RX5) (T := TX5) (N := 34) tyX5 tyX5_ok nmX5 rfl (by decide) inX5 kw687 dX5_init_9 (tyX5_ok 9 (by decide)) (fun _ _ _ _ _ h => Or.inr ⟨rfl, h.1, rfl⟩))) <|
  fa_c (ok_p (xg_load _ _ _) (x_aload_n dX5_init_12 rfl)) <|
  fa_c (ok_p (xg_st _ _) (x_iconst dX5_init_13 rfl)) <|
  fa_c (ok_p (xg_newa _) (x_newa dX5_init_14 kw94)) <|
  fa_c (ok_p (xg_putf _ _ _ _) (x_putfof (C := RX5) (T := TX5) (N := 34) tyX5 tyX5_ok nmX5 rfl (by decide) inX5 kw688 dX5_init_16 (tyX5_ok 10 (by decide)) (fun _ _ _ _ _ h => Or.inr ⟨rfl, h.1, rfl⟩))) <|
  fa_c (ok_p (xg_load _ _ _) (x_aload_n dX5_init_19 rfl)) <|
  fa_c (ok_p (xg_st _ _) (x_iconst dX5_init_20 rfl)) <|
  fa_c (ok_p (xg_newa _) (x_newa dX5_init_21 kw94)) <|
  fa_c (ok_p (xg_putf _ _ _ _) (x_putfof (C := RX5) (T := TX5) (N := 34) tyX5 tyX5_ok nmX5 rfl (by decide) inX5 kw689 dX5_init_23 (tyX5_ok 11 (by decide)) (fun _ _ _ _ _ h => Or.inr ⟨rfl, h.1, rfl⟩))) <|
  fa_c (ok_p (xg_load _ _ _) (x_aload_n dX5_init_26 rfl)) <|
  fa_c (ok_p (xg_st _ _) (x_bipush dX5_init_27 rfl)) <|
  fa_c (ok_p (xg_newa _) (x_newa dX5_init_29 kw94)) <|
  fa_c (ok_p (xg_putf _ _ _ _) (x_putfof (C := RX5) (T := TX5) (N := 34) tyX5 tyX5_ok nmX5 rfl (by decide) inX5 kw696 dX5_init_31 (tyX5_ok 18 (by decide)) (fun _ _ _ _ _ h => Or.inr ⟨rfl, h.1, rfl⟩))) <|
  fa_c (ok_p (xg_load _ _ _) (x_aload_n dX5_init_34 rfl)) <|
  fa_c (ok_p (xg_st _ _) (x_iconst dX5_init_35 rfl)) <|
  fa_c (ok_p (xg_newa _) (x_newa dX5_init_36 kw94)) <|
  fa_c (ok_p (xg_putf _ _ _ _) (x_putfof (C := RX5) (T := TX5) (N := 34) tyX5 tyX5_ok nmX5 rfl (by decide) inX5 kw697 dX5_init_38 (tyX5_ok 19 (by decide)) (fun _ _ _ _ _ h => Or.inr ⟨rfl, h.1, rfl⟩))) <|
  fa_c (ok_p (xg_load _ _ _) (x_aload_n dX5_init_41 rfl)) <|
  fa_c (ok_p (xg_st _ _) (x_iconst dX5_init_42 rfl)) <|
  fa_c (ok_p (xg_newa _) (x_newa dX5_init_43 kw94)) <|
  fa_c (ok_p (xg_putf _ _ _ _) (x_putfof (C := RX5) (T := TX5) (N := 34) tyX5 tyX5_ok nmX5 rfl (by decide) inX5 kw698 dX5_init_45 (tyX5_ok 20 (by decide)) (fun _ _ _ _ _ h => Or.inr ⟨rfl, h.1, rfl⟩))) <|
  fa_c (ok_p (xg_load _ _ _) (x_aload_n dX5_init_48 rfl)) <|
  fa_c (ok_p (xg_st _ _) (x_bipush dX5_init_49 rfl)) <|
  fa_c (ok_p (xg_newa _) (x_newa dX5_init_51 kw94)) <|
  fa_c (ok_p (xg_putf _ _ _ _) (x_putfof (C := RX5) (T := TX5) (N := 34) tyX5 tyX5_ok nmX5 rfl (by decide) inX5 kw702 dX5_init_53 (tyX5_ok 24 (by decide)) (fun _ _ _ _ _ h => Or.inr ⟨rfl, h.1, rfl⟩))) <|
  fa_c (ok_p (xg_load _ _ _) (x_aload_n dX5_init_56 rfl)) <|
  fa_c (ok_p (xg_st _ _) (x_bipush dX5_init_57 rfl)) <|
  fa_c (ok_p (xg_newa _) (x_newa dX5_init_59 kw94)) <|
  fa_c (ok_p (xg_putf _ _ _ _) (x_putfof (C := RX5) (T := TX5) (N := 34) tyX5 tyX5_ok nmX5 rfl (by decide) inX5 kw704 dX5_init_61 (tyX5_ok 26 (by decide)) (fun _ _ _ _ _ h => Or.inr ⟨rfl, h.1, rfl⟩))) <|
  fa_c (ok_p (xg_load _ _ _) (x_aload_n dX5_init_64 rfl)) <|
  fa_c (ok_p (xg_st _ _) (x_bipush dX5_init_65 rfl)) <|
  fa_c (ok_p (xg_newa _) (x_newa dX5_init_67 kw94)) <|
  fa_c (ok_p (xg_putf _ _ _ _) (x_putfof (C := RX5) (T := TX5) (N := 34) tyX5 tyX5_ok nmX5 rfl (by decide) inX5 kw705 dX5_init_69 (tyX5_ok 27 (by decide)) (fun _ _ _ _ _ h => Or.inr ⟨rfl, h.1, rfl⟩))) <|
  fa_c (ok_p (xg_load _ _ _) (x_aload_n dX5_init_72 rfl)) <|
  fa_c (ok_p (xg_st _ _) (x_bipush dX5_init_73 rfl)) <|
  fa_c (ok_p (xg_newa _) (x_newa dX5_init_75 kw94)) <|
  fa_c (ok_p (xg_putf _ _ _ _) (x_putfof (C := RX5) (T := TX5) (N := 34) tyX5 tyX5_ok nmX5 rfl (by decide) inX5 kw706 dX5_init_77 (tyX5_ok 28 (by decide)) (fun _ _ _ _ _ h => Or.inr ⟨rfl, h.1, rfl⟩))) <|
  fa_c (ok_p (xg_load _ _ _) (x_aload_n dX5_init_80 rfl)) <|
  fa_c (ok_p (xg_st _ _) (x_iconst dX5_init_81 rfl)) <|
  fa_c (ok_p (xg_newa _) (x_newa dX5_init_82 kw94)) <|
  fa_c (ok_p (xg_putf _ _ _ _) (x_putfof (C := RX5) (T := TX5) (N := 34) tyX5 tyX5_ok nmX5 rfl (by decide) inX5 kw707 dX5_init_84 (tyX5_ok 29 (by decide)) (fun _ _ _ _ _ h => Or.inr ⟨rfl, h.1, rfl⟩))) <|
  fa_c (ok_p (xg_load _ _ _) (x_aload_n dX5_init_87 rfl)) <|
  fa_c (ok_p (xg_st _ _) (x_iconst dX5_init_88 rfl)) <|
  fa_c (ok_p (xg_newa _) (x_newa dX5_init_89 kw94)) <|
  fa_c (ok_p (xg_putf _ _ _ _) (x_putfof (C := RX5) (T := TX5) (N := 34) tyX5 tyX5_ok nmX5 rfl (by decide) inX5 kw708 dX5_init_91 (tyX5_ok 30 (by decide)) (fun _ _ _ _ _ h => Or.inr ⟨rfl, h.1, rfl⟩))) <|
  fa_c (ok_p (xg_load _ _ _) (x_aload_n dX5_init_94 rfl)) <|
  fa_c (ok_p (xg_st _ _) (x_sipush dX5_init_95 rfl)) <|
  fa_c (ok_p (xg_newa _) (x_newa dX5_init_98 kw94)) <|
  fa_c (ok_p (xg_putf _ _ _ _) (x_putfof (C := RX5) (T := TX5) (N := 34) tyX5 tyX5_ok nmX5 rfl (by decide) inX5 kw709 dX5_init_100 (tyX5_ok 31 (by decide)) (fun _ _ _ _ _ h => Or.inr ⟨rfl, h.1, rfl⟩))) <|
  fa_c (ok_p (xg_load _ _ _) (x_aload_n dX5_init_103 rfl)) <|
  fa_c (ok_p (xg_st _ _) (x_bipush dX5_init_104 rfl)) <|
  fa_c (ok_p (xg_newa _) (x_newa dX5_init_106 kw94)) <|
  fa_c (ok_p (xg_putf _ _ _ _) (x_putfof (C := RX5) (T := TX5) (N := 34) tyX5 tyX5_ok nmX5 rfl (by decide) inX5 kw710 dX5_init_108 (tyX5_ok 32 (by decide)) (fun _ _ _ _ _ h => Or.inr ⟨rfl, h.1, rfl⟩))) <|
  fa_c (ok_p (xg_st _ _) (x_iconst dX5_init_111 rfl)) <|
  fa_c (ok_p (xg_store _ _ _) (x_istore_n dX5_init_112 rfl)) <|
  fa_c (ok_p (xg_load _ _ _) (x_iload_n dX5_init_113 rfl)) <|
  fa_c (ok_p (xg_st _ _) (x_iconst dX5_init_114 rfl)) <|
  fa_c (ok_p (xg_icmp _ _ _) (x_icmp_ge dX5_init_115 (by decide))) <|
  fa_c (ok_p (xg_load _ _ _) (x_aload_n dX5_init_118 rfl)) <|
  fa_c (ok_p (xg_getf _ _ _) (x_getf (C := RX5) (T := TX5) (N := 34) rfl (by decide) inX5 kw707 dX5_init_119)) <|
  fa_c (ok_p (xg_load _ _ _) (x_iload_n dX5_init_122 rfl)) <|
  fa_c (ok_p (xg_st _ _) (x_iconst dX5_init_123 rfl)) <|
  fa_c (ok_p (xg_iast _) (x_iast dX5_init_124)) <|
  fa_c (ok_p (xg_iinc _ _ _) (x_iinc dX5_init_125 rfl)) <|
  fa_c (ok_p (xg_st _ _) (x_goto dX5_init_128 (by decide))) <|
  fa_c (ok_r ⟨rfl, dX5_init_131⟩) <|
  fa_n
theorem dX5_in_0 : decode cX5_in 0 = .ok (.lload_n 0, 1) := by decide +kernel
theorem dX5_in_1 : decode cX5_in 1 = .ok (.lload_n 2, 1) := by decide +kernel
theorem dX5_in_2 : decode cX5_in 2 = .ok (.lcmp, 1) := by decide +kernel
theorem dX5_in_3 : decode cX5_in 3 = .ok (.ifCond .lt 14, 3) := by decide +kernel
theorem dX5_in_6 : decode cX5_in 6 = .ok (.lload_n 0, 1) := by decide +kernel
theorem dX5_in_7 : decode cX5_in 7 = .ok (.lload 4, 2) := by decide +kernel
theorem dX5_in_9 : decode cX5_in 9 = .ok (.lcmp, 1) := by decide +kernel
theorem dX5_in_10 : decode cX5_in 10 = .ok (.ifCond .gt 7, 3) := by decide +kernel
theorem dX5_in_13 : decode cX5_in 13 = .ok (.iconst 1, 1) := by decide +kernel
theorem dX5_in_14 : decode cX5_in 14 = .ok (.goto 4, 3) := by decide +kernel
theorem dX5_in_17 : decode cX5_in 17 = .ok (.iconst 0, 1) := by decide +kernel
theorem dX5_in_18 : decode cX5_in 18 = .ok (.ireturn, 1) := by decide +kernel
set_option maxRecDepth 20000 in
theorem tkX5_in : ∀ q ∈ tbX5_in, xOk (Zm false yX5_in.name) RX5 cX5_in 6 (some .boolean) pT pY q :=
  fa_c (ok_p (xg_load _ _ _) (x_lload_n dX5_in_0 rfl)) <|
  fa_c (ok_p (xg_load _ _ _) (x_lload_n dX5_in_1 rfl)) <|
  fa_c (ok_p (xg_st _ _) (x_lcmp dX5_in_2)) <|
  fa_c (ok_p (xg_if _ _ _) (x_if_lt dX5_in_3 (by decide))) <|
  fa_c (ok_p (xg_load _ _ _) (x_lload_n dX5_in_6 rfl)) <|
  fa_c (ok_p (xg_load _ _ _) (x_lload dX5_in_7)) <|
  fa_c (ok_p (xg_st _ _) (x_lcmp dX5_in_9)) <|
  fa_c (ok_p (xg_if _ _ _) (x_if_gt dX5_in_10 (by decide))) <|
  fa_c (ok_p (xg_st _ _) (x_iconst dX5_in_13 rfl)) <|
  fa_c (ok_p (xg_st _ _) (x_goto dX5_in_14 (by decide))) <|
  fa_c (ok_p (xg_st _ _) (x_iconst dX5_in_17 rfl)) <|
  fa_c (ok_r ⟨rfl, dX5_in_18⟩) <|
  fa_n
theorem dX5_lost_0 : decode cX5_lost 0 = .ok (.ldc2_w 52, 3) := by decide +kernel
theorem dX5_lost_3 : decode cX5_lost 3 = .ok (.lreturn, 1) := by decide +kernel
set_option maxRecDepth 20000 in
theorem tkX5_lost : ∀ q ∈ tbX5_lost, xOk (Zm false yX5_lost.name) RX5 cX5_lost 0 (some .long) pT pY q :=
  fa_c (ok_p (xg_st _ _) (x_ldc2 dX5_lost_0 kw886)) <|
  fa_c (ok_r ⟨rfl, dX5_lost_3⟩) <|
  fa_n
theorem dX5_isIn_0 : decode cX5_isIn 0 = .ok (.iload_n 0, 1) := by decide +kernel
theorem dX5_isIn_1 : decode cX5_isIn 1 = .ok (.iload_n 1, 1) := by decide +kernel
theorem dX5_isIn_2 : decode cX5_isIn 2 = .ok (.ishr, 1) := by decide +kernel
theorem dX5_isIn_3 : decode cX5_isIn 3 = .ok (.iconst 1, 1) := by decide +kernel
theorem dX5_isIn_4 : decode cX5_isIn 4 = .ok (.iand, 1) := by decide +kernel
theorem dX5_isIn_5 : decode cX5_isIn 5 = .ok (.iconst 1, 1) := by decide +kernel
theorem dX5_isIn_6 : decode cX5_isIn 6 = .ok (.if_icmp .ne 7, 3) := by decide +kernel
theorem dX5_isIn_9 : decode cX5_isIn 9 = .ok (.iconst 1, 1) := by decide +kernel
theorem dX5_isIn_10 : decode cX5_isIn 10 = .ok (.goto 4, 3) := by decide +kernel
theorem dX5_isIn_13 : decode cX5_isIn 13 = .ok (.iconst 0, 1) := by decide +kernel
theorem dX5_isIn_14 : decode cX5_isIn 14 = .ok (.ireturn, 1) := by decide +kernel
set_option maxRecDepth 20000 in
theorem tkX5_isIn : ∀ q ∈ tbX5_isIn, xOk (Zm false yX5_isIn.name) RX5 cX5_isIn 2 (some .boolean) pT pY q :=
  fa_c (ok_p (xg_load _ _ _) (x_iload_n dX5_isIn_0 rfl)) <|
  fa_c (ok_p (xg_load _ _ _) (x_iload_n dX5_isIn_1 rfl)) <|
  fa_c (ok_p (xg_st _ _) (x_ishr dX5_isIn_2)) <|
  fa_c (ok_p (xg_st _ _) (x_iconst dX5_isIn_3 rfl)) <|
  fa_c (ok_p (xg_st _ _) (x_iand dX5_isIn_4)) <|
  fa_c (ok_p (xg_st _ _) (x_iconst dX5_isIn_5 rfl)) <|
  fa_c (ok_p (xg_icmp _ _ _) (x_icmp_ne dX5_isIn_6 (by decide))) <|
  fa_c (ok_p (xg_st _ _) (x_iconst dX5_isIn_9 rfl)) <|
  fa_c (ok_p (xg_st _ _) (x_goto dX5_isIn_10 (by decide))) <|
  fa_c (ok_p (xg_st _ _) (x_iconst dX5_isIn_13 rfl)) <|
  fa_c (ok_r ⟨rfl, dX5_isIn_14⟩) <|
  fa_n
theorem dX5_bits_0 : decode cX5_bits 0 = .ok (.iconst 0, 1) := by decide +kernel
theorem dX5_bits_1 : decode cX5_bits 1 = .ok (.istore_n 2, 1) := by decide +kernel
theorem dX5_bits_2 : decode cX5_bits 2 = .ok (.lload_n 0, 1) := by decide +kernel
theorem dX5_bits_3 : decode cX5_bits 3 = .ok (.lstore_n 3, 1) := by decide +kernel
theorem dX5_bits_4 : decode cX5_bits 4 = .ok (.lload_n 3, 1) := by decide +kernel
theorem dX5_bits_5 : decode cX5_bits 5 = .ok (.lconst 0, 1) := by decide +kernel
theorem dX5_bits_6 : decode cX5_bits 6 = .ok (.lcmp, 1) := by decide +kernel
theorem dX5_bits_7 : decode cX5_bits 7 = .ok (.ifCond .le 26, 3) := by decide +kernel
theorem dX5_bits_10 : decode cX5_bits 10 = .ok (.iload_n 2, 1) := by decide +kernel
theorem dX5_bits_11 : decode cX5_bits 11 = .ok (.lload_n 3, 1) := by decide +kernel
theorem dX5_bits_12 : decode cX5_bits 12 = .ok (.lconst 1, 1) := by decide +kernel
theorem dX5_bits_13 : decode cX5_bits 13 = .ok (.land, 1) := by decide +kernel
theorem dX5_bits_14 : decode cX5_bits 14 = .ok (.lconst 1, 1) := by decide +kernel
theorem dX5_bits_15 : decode cX5_bits 15 = .ok (.lcmp, 1) := by decide +kernel
theorem dX5_bits_16 : decode cX5_bits 16 = .ok (.ifCond .ne 7, 3) := by decide +kernel
theorem dX5_bits_19 : decode cX5_bits 19 = .ok (.iconst 1, 1) := by decide +kernel
theorem dX5_bits_20 : decode cX5_bits 20 = .ok (.goto 4, 3) := by decide +kernel
theorem dX5_bits_23 : decode cX5_bits 23 = .ok (.iconst 0, 1) := by decide +kernel
theorem dX5_bits_24 : decode cX5_bits 24 = .ok (.iadd, 1) := by decide +kernel
theorem dX5_bits_25 : decode cX5_bits 25 = .ok (.istore_n 2, 1) := by decide +kernel
theorem dX5_bits_26 : decode cX5_bits 26 = .ok (.lload_n 3, 1) := by decide +kernel
theorem dX5_bits_27 : decode cX5_bits 27 = .ok (.iconst 1, 1) := by decide +kernel
theorem dX5_bits_28 : decode cX5_bits 28 = .ok (.lshr, 1) := by decide +kernel
theorem dX5_bits_29 : decode cX5_bits 29 = .ok (.lstore_n 3, 1) := by decide +kernel
theorem dX5_bits_30 : decode cX5_bits 30 = .ok (.goto (-26), 3) := by decide +kernel
theorem dX5_bits_33 : decode cX5_bits 33 = .ok (.iload_n 2, 1) := by decide +kernel
theorem dX5_bits_34 : decode cX5_bits 34 = .ok (.ireturn, 1) := by decide +kernel
set_option maxRecDepth 20000 in
theorem tkX5_bits : ∀ q ∈ tbX5_bits, xOk (Zm false yX5_bits.name) RX5 cX5_bits 5 (some .int) pT pY q :=
  fa_c (ok_p (xg_st _ _) (x_iconst dX5_bits_0 rfl)) <|
  fa_c (ok_p (xg_store _ _ _) (x_istore_n dX5_bits_1 rfl)) <|
  fa_c (ok_p (xg_load _ _ _) (x_lload_n dX5_bits_2 rfl)) <|
  fa_c (ok_p (xg_store _ _ _) (x_lstore_n dX5_bits_3 rfl)) <|
  fa_c (ok_p (xg_clr _ (xg_load _ _ _)) (x_clr _ (x_lload_n dX5_bits_4 rfl))) <|
  fa_c (ok_p (xg_st _ _) (x_lconst dX5_bits_5 rfl)) <|
  fa_c (ok_p (xg_st _ _) (x_lcmp dX5_bits_6)) <|
  fa_c (ok_p (xg_if _ _ _) (x_if_le dX5_bits_7 (by decide))) <|
  fa_c (ok_p (xg_load _ _ _) (x_iload_n dX5_bits_10 rfl)) <|
  fa_c (ok_p (xg_load _ _ _) (x_lload_n dX5_bits_11 rfl)) <|
  fa_c (ok_p (xg_st _ _) (x_lconst dX5_bits_12 rfl)) <|
  fa_c (ok_p (xg_st _ _) (x_land dX5_bits_13)) <|
  fa_c (ok_p (xg_st _ _) (x_lconst dX5_bits_14 rfl)) <|
  fa_c (ok_p (xg_st _ _) (x_lcmp dX5_bits_15)) <|
  fa_c (ok_p (xg_if _ _ _) (x_if_ne dX5_bits_16 (by decide))) <|
  fa_c (ok_p (xg_st _ _) (x_iconst dX5_bits_19 rfl)) <|
  fa_c (ok_p (xg_st _ _) (x_goto dX5_bits_20 (by decide))) <|
  fa_c (ok_p (xg_st _ _) (x_iconst dX5_bits_23 rfl)) <|
  fa_c (ok_p (xg_st _ _) (x_iadd dX5_bits_24)) <|
  fa_c (ok_p (xg_store _ _ _) (x_istore_n dX5_bits_25 rfl)) <|
  fa_c (ok_p (xg_load _ _ _) (x_lload_n dX5_bits_26 rfl)) <|
  fa_c (ok_p (xg_st _ _) (x_iconst dX5_bits_27 rfl)) <|
  fa_c (ok_p (xg_st _ _) (x_lshr dX5_bits_28)) <|
  fa_c (ok_p (xg_store _ _ _) (x_lstore_n dX5_bits_29 rfl)) <|
  fa_c (ok_p (xg_st _ _) (x_goto dX5_bits_30 (by decide))) <|
  fa_c (ok_p (xg_load _ _ _) (x_iload_n dX5_bits_33 rfl)) <|
  fa_c (ok_r ⟨rfl, dX5_bits_34⟩) <|
  fa_n
theorem dX5_share_0 : decode cX5_share 0 = .ok (.lload_n 0, 1) := by decide +kernel
theorem dX5_share_1 : decode cX5_share 1 = .ok (.lstore 5, 2) := by decide +kernel
theorem dX5_share_3 : decode cX5_share 3 = .ok (.lload_n 2, 1) := by decide +kernel
theorem dX5_share_4 : decode cX5_share 4 = .ok (.lstore 7, 2) := by decide +kernel
theorem dX5_share_6 : decode cX5_share 6 = .ok (.lload 7, 2) := by decide +kernel
theorem dX5_share_8 : decode cX5_share 8 = .ok (.lconst 0, 1) := by decide +kernel
theorem dX5_share_9 : decode cX5_share 9 = .ok (.lcmp, 1) := by decide +kernel
theorem dX5_share_10 : decode cX5_share 10 = .ok (.ifCond .eq 21, 3) := by decide +kernel
theorem dX5_share_13 : decode cX5_share 13 = .ok (.lload 5, 2) := by decide +kernel
theorem dX5_share_15 : decode cX5_share 15 = .ok (.lload 7, 2) := by decide +kernel
theorem dX5_share_17 : decode cX5_share 17 = .ok (.lrem, 1) := by decide +kernel
theorem dX5_share_18 : decode cX5_share 18 = .ok (.lstore 9, 2) := by decide +kernel
theorem dX5_share_20 : decode cX5_share 20 = .ok (.lload 7, 2) := by decide +kernel
theorem dX5_share_22 : decode cX5_share 22 = .ok (.lstore 5, 2) := by decide +kernel
theorem dX5_share_24 : decode cX5_share 24 = .ok (.lload 9, 2) := by decide +kernel
theorem dX5_share_26 : decode cX5_share 26 = .ok (.lstore 7, 2) := by decide +kernel
theorem dX5_share_28 : decode cX5_share 28 = .ok (.goto (-22), 3) := by decide +kernel
theorem dX5_share_31 : decode cX5_share 31 = .ok (.iload 4, 2) := by decide +kernel
theorem dX5_share_33 : decode cX5_share 33 = .ok (.ifCond .ne 7, 3) := by decide +kernel
theorem dX5_share_36 : decode cX5_share 36 = .ok (.lload_n 0, 1) := by decide +kernel
theorem dX5_share_37 : decode cX5_share 37 = .ok (.goto 4, 3) := by decide +kernel
theorem dX5_share_40 : decode cX5_share 40 = .ok (.lload_n 2, 1) := by decide +kernel
theorem dX5_share_41 : decode cX5_share 41 = .ok (.lload 5, 2) := by decide +kernel
theorem dX5_share_43 : decode cX5_share 43 = .ok (.ldiv, 1) := by decide +kernel
theorem dX5_share_44 : decode cX5_share 44 = .ok (.lreturn, 1) := by decide +kernel
set_option maxRecDepth 20000 in
theorem tkX5_share : ∀ q ∈ tbX5_share, xOk (Zm false yX5_share.name) RX5 cX5_share 11 (some .long) pT pY q :=
  fa_c (ok_p (xg_load _ _ _) (x_lload_n dX5_share_0 rfl)) <|
  fa_c (ok_p (xg_store _ _ _) (x_lstore dX5_share_1)) <|
  fa_c (ok_p (xg_load _ _ _) (x_lload_n dX5_share_3 rfl)) <|
  fa_c (ok_p (xg_store _ _ _) (x_lstore dX5_share_4)) <|
  fa_c (ok_p (xg_clr _ (xg_load _ _ _)) (x_clr _ (x_lload dX5_share_6))) <|
  fa_c (ok_p (xg_st _ _) (x_lconst dX5_share_8 rfl)) <|
  fa_c (ok_p (xg_st _ _) (x_lcmp dX5_share_9)) <|
  fa_c (ok_p (xg_if _ _ _) (x_if_eq dX5_share_10 (by decide))) <|
  fa_c (ok_p (xg_load _ _ _) (x_lload dX5_share_13)) <|
  fa_c (ok_p (xg_load _ _ _) (x_lload dX5_share_15)) <|
  fa_c (ok_p (xg_st _ _) (x_lrem dX5_share_17)) <|
  fa_c (ok_p (xg_store _ _ _) (x_lstore dX5_share_18)) <|
  fa_c (ok_p (xg_load _ _ _) (x_lload dX5_share_20)) <|
  fa_c (ok_p (xg_store _ _ _) (x_lstore dX5_share_22)) <|
  fa_c (ok_p (xg_load _ _ _) (x_lload dX5_share_24)) <|
  fa_c (ok_p (xg_store _ _ _) (x_lstore dX5_share_26)) <|
  fa_c (ok_p (xg_st _ _) (x_goto dX5_share_28 (by decide))) <|
  fa_c (ok_p (xg_load _ _ _) (x_iload dX5_share_31)) <|
  fa_c (ok_p (xg_if _ _ _) (x_if_ne dX5_share_33 (by decide))) <|
  fa_c (ok_p (xg_load _ _ _) (x_lload_n dX5_share_36 rfl)) <|
  fa_c (ok_p (xg_st _ _) (x_goto dX5_share_37 (by decide))) <|
  fa_c (ok_p (xg_load _ _ _) (x_lload_n dX5_share_40 rfl)) <|
  fa_c (ok_p (xg_load _ _ _) (x_lload dX5_share_41)) <|
  fa_c (ok_p (xg_st _ _) (x_ldiv dX5_share_43)) <|
  fa_c (ok_r ⟨rfl, dX5_share_44⟩) <|
  fa_n
theorem dX5_refused_0 : decode cX5_refused 0 = .ok (.aload_n 0, 1) := by decide +kernel
theorem dX5_refused_1 : decode cX5_refused 1 = .ok (.iconst 0, 1) := by decide +kernel
theorem dX5_refused_2 : decode cX5_refused 2 = .ok (.putfield 54, 3) := by decide +kernel
theorem dX5_refused_5 : decode cX5_refused 5 = .ok (.iload_n 1, 1) := by decide +kernel
theorem dX5_refused_6 : decode cX5_refused 6 = .ok (.ireturn, 1) := by decide +kernel
set_option maxRecDepth 20000 in
theorem tkX5_refused : ∀ q ∈ tbX5_refused, xOk (Zm false yX5_refused.name) RX5 cX5_refused 2 (some .int) pT pY q :=
  fa_c (ok_p (xg_load _ _ _) (x_aload_n dX5_refused_0 rfl)) <|
  fa_c (ok_p (xg_st _ _) (x_iconst dX5_refused_1 rfl)) <|
  fa_c (ok_p (xg_putf _ _ _ _) (x_putfof (C := RX5) (T := TX5) (N := 34) tyX5 tyX5_ok nmX5 rfl (by decide) inX5 kw678 dX5_refused_2 (tyX5_ok 0 (by decide)) (fun _ _ _ _ _ _ => Or.inl rfl))) <|
  fa_c (ok_p (xg_load _ _ _) (x_iload_n dX5_refused_5 rfl)) <|
  fa_c (ok_r ⟨rfl, dX5_refused_6⟩) <|
  fa_n
theorem dX5_failed_0 : decode cX5_failed 0 = .ok (.aload_n 0, 1) := by decide +kernel
theorem dX5_failed_1 : decode cX5_failed 1 = .ok (.iload_n 1, 1) := by decide +kernel
theorem dX5_failed_2 : decode cX5_failed 2 = .ok (.putfield 54, 3) := by decide +kernel
theorem dX5_failed_5 : decode cX5_failed 5 = .ok (.bipush (-10), 2) := by decide +kernel
theorem dX5_failed_7 : decode cX5_failed 7 = .ok (.iload_n 1, 1) := by decide +kernel
theorem dX5_failed_8 : decode cX5_failed 8 = .ok (.isub, 1) := by decide +kernel
theorem dX5_failed_9 : decode cX5_failed 9 = .ok (.ireturn, 1) := by decide +kernel
set_option maxRecDepth 20000 in
theorem tkX5_failed : ∀ q ∈ tbX5_failed, xOk (Zm false yX5_failed.name) RX5 cX5_failed 2 (some .int) pT pY q :=
  fa_c (ok_p (xg_load _ _ _) (x_aload_n dX5_failed_0 rfl)) <|
  fa_c (ok_p (xg_load _ _ _) (x_iload_n dX5_failed_1 rfl)) <|
  fa_c (ok_p (xg_putf _ _ _ _) (x_putfof (C := RX5) (T := TX5) (N := 34) tyX5 tyX5_ok nmX5 rfl (by decide) inX5 kw678 dX5_failed_2 (tyX5_ok 0 (by decide)) (fun _ _ _ _ _ _ => Or.inl rfl))) <|
  fa_c (ok_p (xg_st _ _) (x_bipush dX5_failed_5 rfl)) <|
  fa_c (ok_p (xg_load _ _ _) (x_iload_n dX5_failed_7 rfl)) <|
  fa_c (ok_p (xg_st _ _) (x_isub dX5_failed_8)) <|
  fa_c (ok_r ⟨rfl, dX5_failed_9⟩) <|
  fa_n
theorem dX5_failedLong_0 : decode cX5_failedLong 0 = .ok (.aload_n 0, 1) := by decide +kernel
theorem dX5_failedLong_1 : decode cX5_failedLong 1 = .ok (.iload_n 1, 1) := by decide +kernel
theorem dX5_failedLong_2 : decode cX5_failedLong 2 = .ok (.putfield 54, 3) := by decide +kernel
theorem dX5_failedLong_5 : decode cX5_failedLong 5 = .ok (.invokestatic 58, 3) := by decide +kernel
theorem dX5_failedLong_8 : decode cX5_failedLong 8 = .ok (.lreturn, 1) := by decide +kernel
set_option maxRecDepth 20000 in
theorem tkX5_failedLong : ∀ q ∈ tbX5_failedLong, xOk (Zm false yX5_failedLong.name) RX5 cX5_failedLong 2 (some .long) pT pY q :=
  fa_c (ok_p (xg_load _ _ _) (x_aload_n dX5_failedLong_0 rfl)) <|
  fa_c (ok_p (xg_load _ _ _) (x_iload_n dX5_failedLong_1 rfl)) <|
  fa_c (ok_p (xg_putf _ _ _ _) (x_putfof (C := RX5) (T := TX5) (N := 34) tyX5 tyX5_ok nmX5 rfl (by decide) inX5 kw678 dX5_failedLong_2 (tyX5_ok 0 (by decide)) (fun _ _ _ _ _ _ => Or.inl rfl))) <|
  fa_c (ok_c pT_123 pY_123 (x_callS (n := 0) rfl kw883 kw884 kw63 kw885 (by decide +kernel) dX5_failedLong_5)) <|
  fa_c (ok_r ⟨rfl, dX5_failedLong_8⟩) <|
  fa_n
theorem dX5_noLooker_0 : decode cX5_noLooker 0 = .ok (.iload_n 1, 1) := by decide +kernel
theorem dX5_noLooker_1 : decode cX5_noLooker 1 = .ok (.i2l, 1) := by decide +kernel
theorem dX5_noLooker_2 : decode cX5_noLooker 2 = .ok (.lconst 0, 1) := by decide +kernel
theorem dX5_noLooker_3 : decode cX5_noLooker 3 = .ok (.aload_n 0, 1) := by decide +kernel
theorem dX5_noLooker_4 : decode cX5_noLooker 4 = .ok (.getfield 62, 3) := by decide +kernel
theorem dX5_noLooker_7 : decode cX5_noLooker 7 = .ok (.i2l, 1) := by decide +kernel
theorem dX5_noLooker_8 : decode cX5_noLooker 8 = .ok (.lconst 1, 1) := by decide +kernel
theorem dX5_noLooker_9 : decode cX5_noLooker 9 = .ok (.lsub, 1) := by decide +kernel
theorem dX5_noLooker_10 : decode cX5_noLooker 10 = .ok (.invokestatic 65, 3) := by decide +kernel
theorem dX5_noLooker_13 : decode cX5_noLooker 13 = .ok (.ifCond .ne 7, 3) := by decide +kernel
theorem dX5_noLooker_16 : decode cX5_noLooker 16 = .ok (.iconst 1, 1) := by decide +kernel
theorem dX5_noLooker_17 : decode cX5_noLooker 17 = .ok (.goto 4, 3) := by decide +kernel
theorem dX5_noLooker_20 : decode cX5_noLooker 20 = .ok (.iconst 0, 1) := by decide +kernel
theorem dX5_noLooker_21 : decode cX5_noLooker 21 = .ok (.ireturn, 1) := by decide +kernel
set_option maxRecDepth 20000 in
theorem tkX5_noLooker : ∀ q ∈ tbX5_noLooker, xOk (Zm false yX5_noLooker.name) RX5 cX5_noLooker 2 (some .boolean) pT pY q :=
  fa_c (ok_p (xg_load _ _ _) (x_iload_n dX5_noLooker_0 rfl)) <|
  fa_c (ok_p (xg_st _ _) (x_i2l dX5_noLooker_1)) <|
  fa_c (ok_p (xg_st _ _) (x_lconst dX5_noLooker_2 rfl)) <|
  fa_c (ok_p (xg_load _ _ _) (x_aload_n dX5_noLooker_3 rfl)) <|
  fa_c (ok_p (xg_getf _ _ _) (x_getf (C := RX5) (T := TX5) (N := 34) rfl (by decide) inX5 kw681 dX5_noLooker_4)) <|
  fa_c (ok_p (xg_st _ _) (x_i2l dX5_noLooker_7)) <|
  fa_c (ok_p (xg_st _ _) (x_lconst dX5_noLooker_8 rfl)) <|
  fa_c (ok_p (xg_st _ _) (x_lsub dX5_noLooker_9)) <|
  fa_c (ok_c pT_122 pY_122 (x_callS (n := 3) rfl kw789 kw790 kw63 kw791 (by decide +kernel) dX5_noLooker_10)) <|
  fa_c (ok_p (xg_if _ _ _) (x_if_ne dX5_noLooker_13 (by decide))) <|
  fa_c (ok_p (xg_st _ _) (x_iconst dX5_noLooker_16 rfl)) <|
  fa_c (ok_p (xg_st _ _) (x_goto dX5_noLooker_17 (by decide))) <|
  fa_c (ok_p (xg_st _ _) (x_iconst dX5_noLooker_20 rfl)) <|
  fa_c (ok_r ⟨rfl, dX5_noLooker_21⟩) <|
  fa_n
theorem dX5_noPlace_0 : decode cX5_noPlace 0 = .ok (.iload_n 1, 1) := by decide +kernel
theorem dX5_noPlace_1 : decode cX5_noPlace 1 = .ok (.i2l, 1) := by decide +kernel
theorem dX5_noPlace_2 : decode cX5_noPlace 2 = .ok (.lconst 0, 1) := by decide +kernel
theorem dX5_noPlace_3 : decode cX5_noPlace 3 = .ok (.aload_n 0, 1) := by decide +kernel
theorem dX5_noPlace_4 : decode cX5_noPlace 4 = .ok (.getfield 69, 3) := by decide +kernel
theorem dX5_noPlace_7 : decode cX5_noPlace 7 = .ok (.aload_n 0, 1) := by decide +kernel
theorem dX5_noPlace_8 : decode cX5_noPlace 8 = .ok (.getfield 72, 3) := by decide +kernel
theorem dX5_noPlace_11 : decode cX5_noPlace 11 = .ok (.imul, 1) := by decide +kernel
theorem dX5_noPlace_12 : decode cX5_noPlace 12 = .ok (.i2l, 1) := by decide +kernel
theorem dX5_noPlace_13 : decode cX5_noPlace 13 = .ok (.lconst 1, 1) := by decide +kernel
theorem dX5_noPlace_14 : decode cX5_noPlace 14 = .ok (.lsub, 1) := by decide +kernel
theorem dX5_noPlace_15 : decode cX5_noPlace 15 = .ok (.invokestatic 65, 3) := by decide +kernel
theorem dX5_noPlace_18 : decode cX5_noPlace 18 = .ok (.ifCond .ne 7, 3) := by decide +kernel
theorem dX5_noPlace_21 : decode cX5_noPlace 21 = .ok (.iconst 1, 1) := by decide +kernel
theorem dX5_noPlace_22 : decode cX5_noPlace 22 = .ok (.goto 4, 3) := by decide +kernel
theorem dX5_noPlace_25 : decode cX5_noPlace 25 = .ok (.iconst 0, 1) := by decide +kernel
theorem dX5_noPlace_26 : decode cX5_noPlace 26 = .ok (.ireturn, 1) := by decide +kernel
set_option maxRecDepth 20000 in
theorem tkX5_noPlace : ∀ q ∈ tbX5_noPlace, xOk (Zm false yX5_noPlace.name) RX5 cX5_noPlace 2 (some .boolean) pT pY q :=
  fa_c (ok_p (xg_load _ _ _) (x_iload_n dX5_noPlace_0 rfl)) <|
  fa_c (ok_p (xg_st _ _) (x_i2l dX5_noPlace_1)) <|
  fa_c (ok_p (xg_st _ _) (x_lconst dX5_noPlace_2 rfl)) <|
  fa_c (ok_p (xg_load _ _ _) (x_aload_n dX5_noPlace_3 rfl)) <|
  fa_c (ok_p (xg_getf _ _ _) (x_getf (C := RX5) (T := TX5) (N := 34) rfl (by decide) inX5 kw679 dX5_noPlace_4)) <|
  fa_c (ok_p (xg_load _ _ _) (x_aload_n dX5_noPlace_7 rfl)) <|
  fa_c (ok_p (xg_getf _ _ _) (x_getf (C := RX5) (T := TX5) (N := 34) rfl (by decide) inX5 kw680 dX5_noPlace_8)) <|
  fa_c (ok_p (xg_st _ _) (x_imul dX5_noPlace_11)) <|
  fa_c (ok_p (xg_st _ _) (x_i2l dX5_noPlace_12)) <|
  fa_c (ok_p (xg_st _ _) (x_lconst dX5_noPlace_13 rfl)) <|
  fa_c (ok_p (xg_st _ _) (x_lsub dX5_noPlace_14)) <|
  fa_c (ok_c pT_122 pY_122 (x_callS (n := 3) rfl kw789 kw790 kw63 kw791 (by decide +kernel) dX5_noPlace_15)) <|
  fa_c (ok_p (xg_if _ _ _) (x_if_ne dX5_noPlace_18 (by decide))) <|
  fa_c (ok_p (xg_st _ _) (x_iconst dX5_noPlace_21 rfl)) <|
  fa_c (ok_p (xg_st _ _) (x_goto dX5_noPlace_22 (by decide))) <|
  fa_c (ok_p (xg_st _ _) (x_iconst dX5_noPlace_25 rfl)) <|
  fa_c (ok_r ⟨rfl, dX5_noPlace_26⟩) <|
  fa_n
theorem dX5_codeAt_0 : decode cX5_codeAt 0 = .ok (.aload_n 0, 1) := by decide +kernel
theorem dX5_codeAt_1 : decode cX5_codeAt 1 = .ok (.getfield 75, 3) := by decide +kernel
theorem dX5_codeAt_4 : decode cX5_codeAt 4 = .ok (.iload_n 2, 1) := by decide +kernel
theorem dX5_codeAt_5 : decode cX5_codeAt 5 = .ok (.if_icmp .ge 17, 3) := by decide +kernel
theorem dX5_codeAt_8 : decode cX5_codeAt 8 = .ok (.aload_n 0, 1) := by decide +kernel
theorem dX5_codeAt_9 : decode cX5_codeAt 9 = .ok (.getfield 46, 3) := by decide +kernel
theorem dX5_codeAt_12 : decode cX5_codeAt 12 = .ok (.iload_n 1, 1) := by decide +kernel
theorem dX5_codeAt_13 : decode cX5_codeAt 13 = .ok (.aload_n 0, 1) := by decide +kernel
theorem dX5_codeAt_14 : decode cX5_codeAt 14 = .ok (.getfield 75, 3) := by decide +kernel
theorem dX5_codeAt_17 : decode cX5_codeAt 17 = .ok (.iadd, 1) := by decide +kernel
theorem dX5_codeAt_18 : decode cX5_codeAt 18 = .ok (.iaload, 1) := by decide +kernel
theorem dX5_codeAt_19 : decode cX5_codeAt 19 = .ok (.goto 5, 3) := by decide +kernel
theorem dX5_codeAt_22 : decode cX5_codeAt 22 = .ok (.bipush (-9), 2) := by decide +kernel
theorem dX5_codeAt_24 : decode cX5_codeAt 24 = .ok (.ireturn, 1) := by decide +kernel
set_option maxRecDepth 20000 in
theorem tkX5_codeAt : ∀ q ∈ tbX5_codeAt, xOk (Zm false yX5_codeAt.name) RX5 cX5_codeAt 3 (some .int) pT pY q :=
  fa_c (ok_p (xg_load _ _ _) (x_aload_n dX5_codeAt_0 rfl)) <|
  fa_c (ok_p (xg_getf _ _ _) (x_getf (C := RX5) (T := TX5) (N := 34) rfl (by decide) inX5 kw690 dX5_codeAt_1)) <|
  fa_c (ok_p (xg_load _ _ _) (x_iload_n dX5_codeAt_4 rfl)) <|
  fa_c (ok_p (xg_icmp _ _ _) (x_icmp_ge dX5_codeAt_5 (by decide))) <|
  fa_c (ok_p (xg_load _ _ _) (x_aload_n dX5_codeAt_8 rfl)) <|
  fa_c (ok_p (xg_getf _ _ _) (x_getf (C := RX5) (T := TX5) (N := 34) rfl (by decide) inX5 kw709 dX5_codeAt_9)) <|
  fa_c (ok_p (xg_load _ _ _) (x_iload_n dX5_codeAt_12 rfl)) <|
  fa_c (ok_p (xg_load _ _ _) (x_aload_n dX5_codeAt_13 rfl)) <|
  fa_c (ok_p (xg_getf _ _ _) (x_getf (C := RX5) (T := TX5) (N := 34) rfl (by decide) inX5 kw690 dX5_codeAt_14)) <|
  fa_c (ok_p (xg_st _ _) (x_iadd dX5_codeAt_17)) <|
  fa_c (ok_p (xg_iald _) (x_iald dX5_codeAt_18)) <|
  fa_c (ok_p (xg_st _ _) (x_goto dX5_codeAt_19 (by decide))) <|
  fa_c (ok_p (xg_st _ _) (x_bipush dX5_codeAt_22 rfl)) <|
  fa_c (ok_r ⟨rfl, dX5_codeAt_24⟩) <|
  fa_n
theorem dX5_figure_0 : decode cX5_figure 0 = .ok (.iload_n 3, 1) := by decide +kernel
theorem dX5_figure_1 : decode cX5_figure 1 = .ok (.ifCond .ge 8, 3) := by decide +kernel
theorem dX5_figure_4 : decode cX5_figure 4 = .ok (.bipush (-9), 2) := by decide +kernel
theorem dX5_figure_6 : decode cX5_figure 6 = .ok (.goto 12, 3) := by decide +kernel
theorem dX5_figure_9 : decode cX5_figure 9 = .ok (.aload_n 0, 1) := by decide +kernel
theorem dX5_figure_10 : decode cX5_figure 10 = .ok (.iload_n 1, 1) := by decide +kernel
theorem dX5_figure_11 : decode cX5_figure 11 = .ok (.iload_n 2, 1) := by decide +kernel
theorem dX5_figure_12 : decode cX5_figure 12 = .ok (.invokevirtual 78, 3) := by decide +kernel
theorem dX5_figure_15 : decode cX5_figure 15 = .ok (.bipush 48, 2) := by decide +kernel
theorem dX5_figure_17 : decode cX5_figure 17 = .ok (.isub, 1) := by decide +kernel
theorem dX5_figure_18 : decode cX5_figure 18 = .ok (.istore 6, 2) := by decide +kernel
theorem dX5_figure_20 : decode cX5_figure 20 = .ok (.iload 6, 2) := by decide +kernel
theorem dX5_figure_22 : decode cX5_figure 22 = .ok (.i2l, 1) := by decide +kernel
theorem dX5_figure_23 : decode cX5_figure 23 = .ok (.iload 4, 2) := by decide +kernel
theorem dX5_figure_25 : decode cX5_figure 25 = .ok (.i2l, 1) := by decide +kernel
theorem dX5_figure_26 : decode cX5_figure 26 = .ok (.iload 5, 2) := by decide +kernel
theorem dX5_figure_28 : decode cX5_figure 28 = .ok (.i2l, 1) := by decide +kernel
theorem dX5_figure_29 : decode cX5_figure 29 = .ok (.invokestatic 65, 3) := by decide +kernel
theorem dX5_figure_32 : decode cX5_figure 32 = .ok (.istore 7, 2) := by decide +kernel
theorem dX5_figure_34 : decode cX5_figure 34 = .ok (.aload_n 0, 1) := by decide +kernel
theorem dX5_figure_35 : decode cX5_figure 35 = .ok (.dup, 1) := by decide +kernel
theorem dX5_figure_36 : decode cX5_figure 36 = .ok (.getfield 75, 3) := by decide +kernel
theorem dX5_figure_39 : decode cX5_figure 39 = .ok (.iload 7, 2) := by decide +kernel
theorem dX5_figure_41 : decode cX5_figure 41 = .ok (.ifCond .eq 7, 3) := by decide +kernel
theorem dX5_figure_44 : decode cX5_figure 44 = .ok (.iconst 1, 1) := by decide +kernel
theorem dX5_figure_45 : decode cX5_figure 45 = .ok (.goto 4, 3) := by decide +kernel
theorem dX5_figure_48 : decode cX5_figure 48 = .ok (.iconst 0, 1) := by decide +kernel
theorem dX5_figure_49 : decode cX5_figure 49 = .ok (.iadd, 1) := by decide +kernel
theorem dX5_figure_50 : decode cX5_figure 50 = .ok (.putfield 75, 3) := by decide +kernel
theorem dX5_figure_53 : decode cX5_figure 53 = .ok (.iload 7, 2) := by decide +kernel
theorem dX5_figure_55 : decode cX5_figure 55 = .ok (.ifCond .eq 8, 3) := by decide +kernel
theorem dX5_figure_58 : decode cX5_figure 58 = .ok (.iload 6, 2) := by decide +kernel
theorem dX5_figure_60 : decode cX5_figure 60 = .ok (.goto 5, 3) := by decide +kernel
theorem dX5_figure_63 : decode cX5_figure 63 = .ok (.bipush (-9), 2) := by decide +kernel
theorem dX5_figure_65 : decode cX5_figure 65 = .ok (.ireturn, 1) := by decide +kernel
set_option maxRecDepth 20000 in
theorem tkX5_figure : ∀ q ∈ tbX5_figure, xOk (Zm false yX5_figure.name) RX5 cX5_figure 8 (some .int) pT pY q :=
  fa_c (ok_p (xg_load _ _ _) (x_iload_n dX5_figure_0 rfl)) <|
  fa_c (ok_p (xg_if _ _ _) (x_if_ge dX5_figure_1 (by decide))) <|
  fa_c (ok_p (xg_st _ _) (x_bipush dX5_figure_4 rfl)) <|
  fa_c (ok_p (xg_st _ _) (x_goto dX5_figure_6 (by decide))) <|
  fa_c (ok_p (xg_load _ _ _) (x_aload_n dX5_figure_9 rfl)) <|
  fa_c (ok_p (xg_load _ _ _) (x_iload_n dX5_figure_10 rfl)) <|
  fa_c (ok_p (xg_load _ _ _) (x_iload_n dX5_figure_11 rfl)) <|
  fa_c (ok_c pT_132 pY_132 (x_callV (n := 2) (C := RX5) (T := TX5) (N := 34) rfl rfl kw812 kw814 kw30 kw63 kw815 (by decide +kernel) dX5_figure_12)) <|
  fa_c (ok_p (xg_st _ _) (x_bipush dX5_figure_15 rfl)) <|
  fa_c (ok_p (xg_st _ _) (x_isub dX5_figure_17)) <|
  fa_c (ok_p (xg_store _ _ _) (x_istore dX5_figure_18)) <|
  fa_c (ok_p (xg_load _ _ _) (x_iload dX5_figure_20)) <|
  fa_c (ok_p (xg_st _ _) (x_i2l dX5_figure_22)) <|
  fa_c (ok_p (xg_load _ _ _) (x_iload dX5_figure_23)) <|
  fa_c (ok_p (xg_st _ _) (x_i2l dX5_figure_25)) <|
  fa_c (ok_p (xg_load _ _ _) (x_iload dX5_figure_26)) <|
  fa_c (ok_p (xg_st _ _) (x_i2l dX5_figure_28)) <|
  fa_c (ok_c pT_122 pY_122 (x_callS (n := 3) rfl kw789 kw790 kw63 kw791 (by decide +kernel) dX5_figure_29)) <|
  fa_c (ok_p (xg_store _ _ _) (x_istore dX5_figure_32)) <|
  fa_c (ok_p (xg_load _ _ _) (x_aload_n dX5_figure_34 rfl)) <|
  fa_c (ok_p (xg_st _ _) (x_dup dX5_figure_35)) <|
  fa_c (ok_p (xg_getf _ _ _) (x_getf (C := RX5) (T := TX5) (N := 34) rfl (by decide) inX5 kw690 dX5_figure_36)) <|
  fa_c (ok_p (xg_load _ _ _) (x_iload dX5_figure_39)) <|
  fa_c (ok_p (xg_if _ _ _) (x_if_eq dX5_figure_41 (by decide))) <|
  fa_c (ok_p (xg_st _ _) (x_iconst dX5_figure_44 rfl)) <|
  fa_c (ok_p (xg_st _ _) (x_goto dX5_figure_45 (by decide))) <|
  fa_c (ok_p (xg_st _ _) (x_iconst dX5_figure_48 rfl)) <|
  fa_c (ok_p (xg_st _ _) (x_iadd dX5_figure_49)) <|
  fa_c (ok_p (xg_putf _ _ _ _) (x_putfof (C := RX5) (T := TX5) (N := 34) tyX5 tyX5_ok nmX5 rfl (by decide) inX5 kw690 dX5_figure_50 (tyX5_ok 12 (by decide)) (fun _ _ _ _ _ _ => Or.inl rfl))) <|
  fa_c (ok_p (xg_load _ _ _) (x_iload dX5_figure_53)) <|
  fa_c (ok_p (xg_if _ _ _) (x_if_eq dX5_figure_55 (by decide))) <|
  fa_c (ok_p (xg_load _ _ _) (x_iload dX5_figure_58)) <|
  fa_c (ok_p (xg_st _ _) (x_goto dX5_figure_60 (by decide))) <|
  fa_c (ok_p (xg_st _ _) (x_bipush dX5_figure_63 rfl)) <|
  fa_c (ok_r ⟨rfl, dX5_figure_65⟩) <|
  fa_n
theorem dX5_readsFloor_0 : decode cX5_readsFloor 0 = .ok (.aload_n 0, 1) := by decide +kernel
theorem dX5_readsFloor_1 : decode cX5_readsFloor 1 = .ok (.aload_n 0, 1) := by decide +kernel
theorem dX5_readsFloor_2 : decode cX5_readsFloor 2 = .ok (.iload_n 1, 1) := by decide +kernel
theorem dX5_readsFloor_3 : decode cX5_readsFloor 3 = .ok (.iload_n 2, 1) := by decide +kernel
theorem dX5_readsFloor_4 : decode cX5_readsFloor 4 = .ok (.iconst 0, 1) := by decide +kernel
theorem dX5_readsFloor_5 : decode cX5_readsFloor 5 = .ok (.iconst 2, 1) := by decide +kernel
theorem dX5_readsFloor_6 : decode cX5_readsFloor 6 = .ok (.bipush 6, 2) := by decide +kernel
theorem dX5_readsFloor_8 : decode cX5_readsFloor 8 = .ok (.invokevirtual 82, 3) := by decide +kernel
theorem dX5_readsFloor_11 : decode cX5_readsFloor 11 = .ok (.putfield 86, 3) := by decide +kernel
theorem dX5_readsFloor_14 : decode cX5_readsFloor 14 = .ok (.aload_n 0, 1) := by decide +kernel
theorem dX5_readsFloor_15 : decode cX5_readsFloor 15 = .ok (.aload_n 0, 1) := by decide +kernel
theorem dX5_readsFloor_16 : decode cX5_readsFloor 16 = .ok (.iload_n 1, 1) := by decide +kernel
theorem dX5_readsFloor_17 : decode cX5_readsFloor 17 = .ok (.iload_n 2, 1) := by decide +kernel
theorem dX5_readsFloor_18 : decode cX5_readsFloor 18 = .ok (.aload_n 0, 1) := by decide +kernel
theorem dX5_readsFloor_19 : decode cX5_readsFloor 19 = .ok (.getfield 86, 3) := by decide +kernel
theorem dX5_readsFloor_22 : decode cX5_readsFloor 22 = .ok (.iconst 2, 1) := by decide +kernel
theorem dX5_readsFloor_23 : decode cX5_readsFloor 23 = .ok (.bipush 6, 2) := by decide +kernel
theorem dX5_readsFloor_25 : decode cX5_readsFloor 25 = .ok (.invokevirtual 82, 3) := by decide +kernel
theorem dX5_readsFloor_28 : decode cX5_readsFloor 28 = .ok (.putfield 89, 3) := by decide +kernel
theorem dX5_readsFloor_31 : decode cX5_readsFloor 31 = .ok (.aload_n 0, 1) := by decide +kernel
theorem dX5_readsFloor_32 : decode cX5_readsFloor 32 = .ok (.getfield 89, 3) := by decide +kernel
theorem dX5_readsFloor_35 : decode cX5_readsFloor 35 = .ok (.ifCond .le 7, 3) := by decide +kernel
theorem dX5_readsFloor_38 : decode cX5_readsFloor 38 = .ok (.iconst 1, 1) := by decide +kernel
theorem dX5_readsFloor_39 : decode cX5_readsFloor 39 = .ok (.goto 4, 3) := by decide +kernel
theorem dX5_readsFloor_42 : decode cX5_readsFloor 42 = .ok (.iconst 0, 1) := by decide +kernel
theorem dX5_readsFloor_43 : decode cX5_readsFloor 43 = .ok (.istore_n 3, 1) := by decide +kernel
theorem dX5_readsFloor_44 : decode cX5_readsFloor 44 = .ok (.iconst 0, 1) := by decide +kernel
theorem dX5_readsFloor_45 : decode cX5_readsFloor 45 = .ok (.istore 4, 2) := by decide +kernel
theorem dX5_readsFloor_47 : decode cX5_readsFloor 47 = .ok (.iload_n 3, 1) := by decide +kernel
theorem dX5_readsFloor_48 : decode cX5_readsFloor 48 = .ok (.ifCond .eq 56, 3) := by decide +kernel
theorem dX5_readsFloor_51 : decode cX5_readsFloor 51 = .ok (.iload 4, 2) := by decide +kernel
theorem dX5_readsFloor_53 : decode cX5_readsFloor 53 = .ok (.aload_n 0, 1) := by decide +kernel
theorem dX5_readsFloor_54 : decode cX5_readsFloor 54 = .ok (.getfield 86, 3) := by decide +kernel
theorem dX5_readsFloor_57 : decode cX5_readsFloor 57 = .ok (.aload_n 0, 1) := by decide +kernel
theorem dX5_readsFloor_58 : decode cX5_readsFloor 58 = .ok (.getfield 89, 3) := by decide +kernel
theorem dX5_readsFloor_61 : decode cX5_readsFloor 61 = .ok (.imul, 1) := by decide +kernel
theorem dX5_readsFloor_62 : decode cX5_readsFloor 62 = .ok (.if_icmp .ge 42, 3) := by decide +kernel
theorem dX5_readsFloor_65 : decode cX5_readsFloor 65 = .ok (.aload_n 0, 1) := by decide +kernel
theorem dX5_readsFloor_66 : decode cX5_readsFloor 66 = .ok (.getfield 19, 3) := by decide +kernel
theorem dX5_readsFloor_69 : decode cX5_readsFloor 69 = .ok (.iload 4, 2) := by decide +kernel
theorem dX5_readsFloor_71 : decode cX5_readsFloor 71 = .ok (.aload_n 0, 1) := by decide +kernel
theorem dX5_readsFloor_72 : decode cX5_readsFloor 72 = .ok (.iload_n 1, 1) := by decide +kernel
theorem dX5_readsFloor_73 : decode cX5_readsFloor 73 = .ok (.iload_n 2, 1) := by decide +kernel
theorem dX5_readsFloor_74 : decode cX5_readsFloor 74 = .ok (.iconst 0, 1) := by decide +kernel
theorem dX5_readsFloor_75 : decode cX5_readsFloor 75 = .ok (.iconst 0, 1) := by decide +kernel
theorem dX5_readsFloor_76 : decode cX5_readsFloor 76 = .ok (.bipush 9, 2) := by decide +kernel
theorem dX5_readsFloor_78 : decode cX5_readsFloor 78 = .ok (.invokevirtual 82, 3) := by decide +kernel
theorem dX5_readsFloor_81 : decode cX5_readsFloor 81 = .ok (.iastore, 1) := by decide +kernel
theorem dX5_readsFloor_82 : decode cX5_readsFloor 82 = .ok (.aload_n 0, 1) := by decide +kernel
theorem dX5_readsFloor_83 : decode cX5_readsFloor 83 = .ok (.getfield 19, 3) := by decide +kernel
theorem dX5_readsFloor_86 : decode cX5_readsFloor 86 = .ok (.iload 4, 2) := by decide +kernel
theorem dX5_readsFloor_88 : decode cX5_readsFloor 88 = .ok (.iaload, 1) := by decide +kernel
theorem dX5_readsFloor_89 : decode cX5_readsFloor 89 = .ok (.ifCond .lt 7, 3) := by decide +kernel
theorem dX5_readsFloor_92 : decode cX5_readsFloor 92 = .ok (.iconst 1, 1) := by decide +kernel
theorem dX5_readsFloor_93 : decode cX5_readsFloor 93 = .ok (.goto 4, 3) := by decide +kernel
theorem dX5_readsFloor_96 : decode cX5_readsFloor 96 = .ok (.iconst 0, 1) := by decide +kernel
theorem dX5_readsFloor_97 : decode cX5_readsFloor 97 = .ok (.istore_n 3, 1) := by decide +kernel
theorem dX5_readsFloor_98 : decode cX5_readsFloor 98 = .ok (.iinc 4 1, 3) := by decide +kernel
theorem dX5_readsFloor_101 : decode cX5_readsFloor 101 = .ok (.goto (-54), 3) := by decide +kernel
theorem dX5_readsFloor_104 : decode cX5_readsFloor 104 = .ok (.iload_n 3, 1) := by decide +kernel
theorem dX5_readsFloor_105 : decode cX5_readsFloor 105 = .ok (.ireturn, 1) := by decide +kernel
set_option maxRecDepth 20000 in
theorem tkX5_readsFloor : ∀ q ∈ tbX5_readsFloor, xOk (Zm false yX5_readsFloor.name) RX5 cX5_readsFloor 5 (some .boolean) pT pY q :=
  fa_c (ok_p (xg_load _ _ _) (x_aload_n dX5_readsFloor_0 rfl)) <|
  fa_c (ok_p (xg_load _ _ _) (x_aload_n dX5_readsFloor_1 rfl)) <|
  fa_c (ok_p (xg_load _ _ _) (x_iload_n dX5_readsFloor_2 rfl)) <|
  fa_c (ok_p (xg_load _ _ _) (x_iload_n dX5_readsFloor_3 rfl)) <|
  fa_c (ok_p (xg_st _ _) (x_iconst dX5_readsFloor_4 rfl)) <|
  fa_c (ok_p (xg_st _ _) (x_iconst dX5_readsFloor_5 rfl)) <|
  fa_c (ok_p (xg_st _ _) (x_bipush dX5_readsFloor_6 rfl)) <|
  fa_c (ok_c pT_133 pY_133 (x_callV (n := 5) (C := RX5) (T := TX5) (N := 34) rfl rfl kw820 kw822 kw32 kw63 kw823 (by decide +kernel) dX5_readsFloor_8)) <|
  fa_c (ok_p (xg_putf _ _ _ _) (x_putfof (C := RX5) (T := TX5) (N := 34) tyX5 tyX5_ok nmX5 rfl (by decide) inX5 kw691 dX5_readsFloor_11 (tyX5_ok 13 (by decide)) (fun _ _ _ _ _ _ => Or.inl rfl))) <|
  fa_c (ok_p (xg_load _ _ _) (x_aload_n dX5_readsFloor_14 rfl)) <|
  fa_c (ok_p (xg_load _ _ _) (x_aload_n dX5_readsFloor_15 rfl)) <|
  fa_c (ok_p (xg_load _ _ _) (x_iload_n dX5_readsFloor_16 rfl)) <|
  fa_c (ok_p (xg_load _ _ _) (x_iload_n dX5_readsFloor_17 rfl)) <|
  fa_c (ok_p (xg_load _ _ _) (x_aload_n dX5_readsFloor_18 rfl)) <|
  fa_c (ok_p (xg_getf _ _ _) (x_getf (C := RX5) (T := TX5) (N := 34) rfl (by decide) inX5 kw691 dX5_readsFloor_19)) <|
  fa_c (ok_p (xg_st _ _) (x_iconst dX5_readsFloor_22 rfl)) <|
  fa_c (ok_p (xg_st _ _) (x_bipush dX5_readsFloor_23 rfl)) <|
  fa_c (ok_c pT_133 pY_133 (x_callV (n := 5) (C := RX5) (T := TX5) (N := 34) rfl rfl kw820 kw822 kw32 kw63 kw823 (by decide +kernel) dX5_readsFloor_25)) <|
  fa_c (ok_p (xg_putf _ _ _ _) (x_putfof (C := RX5) (T := TX5) (N := 34) tyX5 tyX5_ok nmX5 rfl (by decide) inX5 kw692 dX5_readsFloor_28 (tyX5_ok 14 (by decide)) (fun _ _ _ _ _ _ => Or.inl rfl))) <|
  fa_c (ok_p (xg_load _ _ _) (x_aload_n dX5_readsFloor_31 rfl)) <|
  fa_c (ok_p (xg_getf _ _ _) (x_getf (C := RX5) (T := TX5) (N := 34) rfl (by decide) inX5 kw692 dX5_readsFloor_32)) <|
  fa_c (ok_p (xg_if _ _ _) (x_if_le dX5_readsFloor_35 (by decide))) <|
  fa_c (ok_p (xg_st _ _) (x_iconst dX5_readsFloor_38 rfl)) <|
  fa_c (ok_p (xg_st _ _) (x_goto dX5_readsFloor_39 (by decide))) <|
  fa_c (ok_p (xg_st _ _) (x_iconst dX5_readsFloor_42 rfl)) <|
  fa_c (ok_p (xg_store _ _ _) (x_istore_n dX5_readsFloor_43 rfl)) <|
  fa_c (ok_p (xg_st _ _) (x_iconst dX5_readsFloor_44 rfl)) <|
  fa_c (ok_p (xg_store _ _ _) (x_istore dX5_readsFloor_45)) <|
  fa_c (ok_p (xg_load _ _ _) (x_iload_n dX5_readsFloor_47 rfl)) <|
  fa_c (ok_p (xg_if _ _ _) (x_if_eq dX5_readsFloor_48 (by decide))) <|
  fa_c (ok_p (xg_load _ _ _) (x_iload dX5_readsFloor_51)) <|
  fa_c (ok_p (xg_load _ _ _) (x_aload_n dX5_readsFloor_53 rfl)) <|
  fa_c (ok_p (xg_getf _ _ _) (x_getf (C := RX5) (T := TX5) (N := 34) rfl (by decide) inX5 kw691 dX5_readsFloor_54)) <|
  fa_c (ok_p (xg_load _ _ _) (x_aload_n dX5_readsFloor_57 rfl)) <|
  fa_c (ok_p (xg_getf _ _ _) (x_getf (C := RX5) (T := TX5) (N := 34) rfl (by decide) inX5 kw692 dX5_readsFloor_58)) <|
  fa_c (ok_p (xg_st _ _) (x_imul dX5_readsFloor_61)) <|
  fa_c (ok_p (xg_icmp _ _ _) (x_icmp_ge dX5_readsFloor_62 (by decide))) <|
  fa_c (ok_p (xg_load _ _ _) (x_aload_n dX5_readsFloor_65 rfl)) <|
  fa_c (ok_p (xg_getf _ _ _) (x_getf (C := RX5) (T := TX5) (N := 34) rfl (by decide) inX5 kw696 dX5_readsFloor_66)) <|
  fa_c (ok_p (xg_load _ _ _) (x_iload dX5_readsFloor_69)) <|
  fa_c (ok_p (xg_load _ _ _) (x_aload_n dX5_readsFloor_71 rfl)) <|
  fa_c (ok_p (xg_load _ _ _) (x_iload_n dX5_readsFloor_72 rfl)) <|
  fa_c (ok_p (xg_load _ _ _) (x_iload_n dX5_readsFloor_73 rfl)) <|
  fa_c (ok_p (xg_st _ _) (x_iconst dX5_readsFloor_74 rfl)) <|
  fa_c (ok_p (xg_st _ _) (x_iconst dX5_readsFloor_75 rfl)) <|
  fa_c (ok_p (xg_st _ _) (x_bipush dX5_readsFloor_76 rfl)) <|
  fa_c (ok_c pT_133 pY_133 (x_callV (n := 5) (C := RX5) (T := TX5) (N := 34) rfl rfl kw820 kw822 kw32 kw63 kw823 (by decide +kernel) dX5_readsFloor_78)) <|
  fa_c (ok_p (xg_iast _) (x_iast dX5_readsFloor_81)) <|
  fa_c (ok_p (xg_load _ _ _) (x_aload_n dX5_readsFloor_82 rfl)) <|
  fa_c (ok_p (xg_getf _ _ _) (x_getf (C := RX5) (T := TX5) (N := 34) rfl (by decide) inX5 kw696 dX5_readsFloor_83)) <|
  fa_c (ok_p (xg_load _ _ _) (x_iload dX5_readsFloor_86)) <|
  fa_c (ok_p (xg_iald _) (x_iald dX5_readsFloor_88)) <|
  fa_c (ok_p (xg_if _ _ _) (x_if_lt dX5_readsFloor_89 (by decide))) <|
  fa_c (ok_p (xg_st _ _) (x_iconst dX5_readsFloor_92 rfl)) <|
  fa_c (ok_p (xg_st _ _) (x_goto dX5_readsFloor_93 (by decide))) <|
  fa_c (ok_p (xg_st _ _) (x_iconst dX5_readsFloor_96 rfl)) <|
  fa_c (ok_p (xg_store _ _ _) (x_istore_n dX5_readsFloor_97 rfl)) <|
  fa_c (ok_p (xg_iinc _ _ _) (x_iinc dX5_readsFloor_98 rfl)) <|
  fa_c (ok_p (xg_st _ _) (x_goto dX5_readsFloor_101 (by decide))) <|
  fa_c (ok_p (xg_load _ _ _) (x_iload_n dX5_readsFloor_104 rfl)) <|
  fa_c (ok_r ⟨rfl, dX5_readsFloor_105⟩) <|
  fa_n
theorem dX5_readsLooker_0 : decode cX5_readsLooker 0 = .ok (.aload_n 0, 1) := by decide +kernel
theorem dX5_readsLooker_1 : decode cX5_readsLooker 1 = .ok (.iload_n 1, 1) := by decide +kernel
theorem dX5_readsLooker_2 : decode cX5_readsLooker 2 = .ok (.iload_n 2, 1) := by decide +kernel
theorem dX5_readsLooker_3 : decode cX5_readsLooker 3 = .ok (.invokevirtual 78, 3) := by decide +kernel
theorem dX5_readsLooker_6 : decode cX5_readsLooker 6 = .ok (.bipush 59, 2) := by decide +kernel
theorem dX5_readsLooker_8 : decode cX5_readsLooker 8 = .ok (.if_icmp .ne 22, 3) := by decide +kernel
theorem dX5_readsLooker_11 : decode cX5_readsLooker 11 = .ok (.aload_n 0, 1) := by decide +kernel
theorem dX5_readsLooker_12 : decode cX5_readsLooker 12 = .ok (.getfield 92, 3) := by decide +kernel
theorem dX5_readsLooker_15 : decode cX5_readsLooker 15 = .ok (.iconst 4, 1) := by decide +kernel
theorem dX5_readsLooker_16 : decode cX5_readsLooker 16 = .ok (.if_icmp .eq 14, 3) := by decide +kernel
theorem dX5_readsLooker_19 : decode cX5_readsLooker 19 = .ok (.aload_n 0, 1) := by decide +kernel
theorem dX5_readsLooker_20 : decode cX5_readsLooker 20 = .ok (.getfield 92, 3) := by decide +kernel
theorem dX5_readsLooker_23 : decode cX5_readsLooker 23 = .ok (.aload_n 0, 1) := by decide +kernel
theorem dX5_readsLooker_24 : decode cX5_readsLooker 24 = .ok (.getfield 86, 3) := by decide +kernel
theorem dX5_readsLooker_27 : decode cX5_readsLooker 27 = .ok (.if_icmp .ne 5, 3) := by decide +kernel
theorem dX5_readsLooker_30 : decode cX5_readsLooker 30 = .ok (.iconst 0, 1) := by decide +kernel
theorem dX5_readsLooker_31 : decode cX5_readsLooker 31 = .ok (.ireturn, 1) := by decide +kernel
theorem dX5_readsLooker_32 : decode cX5_readsLooker 32 = .ok (.aload_n 0, 1) := by decide +kernel
theorem dX5_readsLooker_33 : decode cX5_readsLooker 33 = .ok (.dup, 1) := by decide +kernel
theorem dX5_readsLooker_34 : decode cX5_readsLooker 34 = .ok (.getfield 75, 3) := by decide +kernel
theorem dX5_readsLooker_37 : decode cX5_readsLooker 37 = .ok (.iconst 1, 1) := by decide +kernel
theorem dX5_readsLooker_38 : decode cX5_readsLooker 38 = .ok (.iadd, 1) := by decide +kernel
theorem dX5_readsLooker_39 : decode cX5_readsLooker 39 = .ok (.putfield 75, 3) := by decide +kernel
theorem dX5_readsLooker_42 : decode cX5_readsLooker 42 = .ok (.aload_n 0, 1) := by decide +kernel
theorem dX5_readsLooker_43 : decode cX5_readsLooker 43 = .ok (.iload_n 1, 1) := by decide +kernel
theorem dX5_readsLooker_44 : decode cX5_readsLooker 44 = .ok (.iload_n 2, 1) := by decide +kernel
theorem dX5_readsLooker_45 : decode cX5_readsLooker 45 = .ok (.invokevirtual 78, 3) := by decide +kernel
theorem dX5_readsLooker_48 : decode cX5_readsLooker 48 = .ok (.istore_n 3, 1) := by decide +kernel
theorem dX5_readsLooker_49 : decode cX5_readsLooker 49 = .ok (.iload_n 3, 1) := by decide +kernel
theorem dX5_readsLooker_50 : decode cX5_readsLooker 50 = .ok (.bipush 112, 2) := by decide +kernel
theorem dX5_readsLooker_52 : decode cX5_readsLooker 52 = .ok (.if_icmp .eq 17, 3) := by decide +kernel
theorem dX5_readsLooker_55 : decode cX5_readsLooker 55 = .ok (.iload_n 3, 1) := by decide +kernel
theorem dX5_readsLooker_56 : decode cX5_readsLooker 56 = .ok (.bipush 100, 2) := by decide +kernel
theorem dX5_readsLooker_58 : decode cX5_readsLooker 58 = .ok (.if_icmp .eq 11, 3) := by decide +kernel
theorem dX5_readsLooker_61 : decode cX5_readsLooker 61 = .ok (.iload_n 3, 1) := by decide +kernel
theorem dX5_readsLooker_62 : decode cX5_readsLooker 62 = .ok (.bipush 103, 2) := by decide +kernel
theorem dX5_readsLooker_64 : decode cX5_readsLooker 64 = .ok (.if_icmp .eq 5, 3) := by decide +kernel
theorem dX5_readsLooker_67 : decode cX5_readsLooker 67 = .ok (.iconst 0, 1) := by decide +kernel
theorem dX5_readsLooker_68 : decode cX5_readsLooker 68 = .ok (.ireturn, 1) := by decide +kernel
theorem dX5_readsLooker_69 : decode cX5_readsLooker 69 = .ok (.aload_n 0, 1) := by decide +kernel
theorem dX5_readsLooker_70 : decode cX5_readsLooker 70 = .ok (.dup, 1) := by decide +kernel
theorem dX5_readsLooker_71 : decode cX5_readsLooker 71 = .ok (.getfield 75, 3) := by decide +kernel
theorem dX5_readsLooker_74 : decode cX5_readsLooker 74 = .ok (.iconst 1, 1) := by decide +kernel
theorem dX5_readsLooker_75 : decode cX5_readsLooker 75 = .ok (.iadd, 1) := by decide +kernel
theorem dX5_readsLooker_76 : decode cX5_readsLooker 76 = .ok (.putfield 75, 3) := by decide +kernel
theorem dX5_readsLooker_79 : decode cX5_readsLooker 79 = .ok (.aload_n 0, 1) := by decide +kernel
theorem dX5_readsLooker_80 : decode cX5_readsLooker 80 = .ok (.getfield 22, 3) := by decide +kernel
theorem dX5_readsLooker_83 : decode cX5_readsLooker 83 = .ok (.aload_n 0, 1) := by decide +kernel
theorem dX5_readsLooker_84 : decode cX5_readsLooker 84 = .ok (.getfield 92, 3) := by decide +kernel
theorem dX5_readsLooker_87 : decode cX5_readsLooker 87 = .ok (.iload_n 3, 1) := by decide +kernel
theorem dX5_readsLooker_88 : decode cX5_readsLooker 88 = .ok (.bipush 112, 2) := by decide +kernel
theorem dX5_readsLooker_90 : decode cX5_readsLooker 90 = .ok (.if_icmp .ne 7, 3) := by decide +kernel
theorem dX5_readsLooker_93 : decode cX5_readsLooker 93 = .ok (.iconst 0, 1) := by decide +kernel
theorem dX5_readsLooker_94 : decode cX5_readsLooker 94 = .ok (.goto 14, 3) := by decide +kernel
theorem dX5_readsLooker_97 : decode cX5_readsLooker 97 = .ok (.iload_n 3, 1) := by decide +kernel
theorem dX5_readsLooker_98 : decode cX5_readsLooker 98 = .ok (.bipush 100, 2) := by decide +kernel
theorem dX5_readsLooker_100 : decode cX5_readsLooker 100 = .ok (.if_icmp .ne 7, 3) := by decide +kernel
theorem dX5_readsLooker_103 : decode cX5_readsLooker 103 = .ok (.iconst 1, 1) := by decide +kernel
theorem dX5_readsLooker_104 : decode cX5_readsLooker 104 = .ok (.goto 4, 3) := by decide +kernel
theorem dX5_readsLooker_107 : decode cX5_readsLooker 107 = .ok (.iconst 2, 1) := by decide +kernel
theorem dX5_readsLooker_108 : decode cX5_readsLooker 108 = .ok (.iastore, 1) := by decide +kernel
theorem dX5_readsLooker_109 : decode cX5_readsLooker 109 = .ok (.aload_n 0, 1) := by decide +kernel
theorem dX5_readsLooker_110 : decode cX5_readsLooker 110 = .ok (.getfield 25, 3) := by decide +kernel
theorem dX5_readsLooker_113 : decode cX5_readsLooker 113 = .ok (.aload_n 0, 1) := by decide +kernel
theorem dX5_readsLooker_114 : decode cX5_readsLooker 114 = .ok (.getfield 92, 3) := by decide +kernel
theorem dX5_readsLooker_117 : decode cX5_readsLooker 117 = .ok (.aload_n 0, 1) := by decide +kernel
theorem dX5_readsLooker_118 : decode cX5_readsLooker 118 = .ok (.iload_n 1, 1) := by decide +kernel
theorem dX5_readsLooker_119 : decode cX5_readsLooker 119 = .ok (.iload_n 2, 1) := by decide +kernel
theorem dX5_readsLooker_120 : decode cX5_readsLooker 120 = .ok (.iconst 0, 1) := by decide +kernel
theorem dX5_readsLooker_121 : decode cX5_readsLooker 121 = .ok (.iconst 0, 1) := by decide +kernel
theorem dX5_readsLooker_122 : decode cX5_readsLooker 122 = .ok (.bipush 9, 2) := by decide +kernel
theorem dX5_readsLooker_124 : decode cX5_readsLooker 124 = .ok (.invokevirtual 82, 3) := by decide +kernel
theorem dX5_readsLooker_127 : decode cX5_readsLooker 127 = .ok (.iastore, 1) := by decide +kernel
theorem dX5_readsLooker_128 : decode cX5_readsLooker 128 = .ok (.aload_n 0, 1) := by decide +kernel
theorem dX5_readsLooker_129 : decode cX5_readsLooker 129 = .ok (.dup, 1) := by decide +kernel
theorem dX5_readsLooker_130 : decode cX5_readsLooker 130 = .ok (.getfield 92, 3) := by decide +kernel
theorem dX5_readsLooker_133 : decode cX5_readsLooker 133 = .ok (.iconst 1, 1) := by decide +kernel
theorem dX5_readsLooker_134 : decode cX5_readsLooker 134 = .ok (.iadd, 1) := by decide +kernel
theorem dX5_readsLooker_135 : decode cX5_readsLooker 135 = .ok (.putfield 92, 3) := by decide +kernel
theorem dX5_readsLooker_138 : decode cX5_readsLooker 138 = .ok (.aload_n 0, 1) := by decide +kernel
theorem dX5_readsLooker_139 : decode cX5_readsLooker 139 = .ok (.getfield 25, 3) := by decide +kernel
theorem dX5_readsLooker_142 : decode cX5_readsLooker 142 = .ok (.aload_n 0, 1) := by decide +kernel
theorem dX5_readsLooker_143 : decode cX5_readsLooker 143 = .ok (.getfield 92, 3) := by decide +kernel
theorem dX5_readsLooker_146 : decode cX5_readsLooker 146 = .ok (.iconst 1, 1) := by decide +kernel
theorem dX5_readsLooker_147 : decode cX5_readsLooker 147 = .ok (.isub, 1) := by decide +kernel
theorem dX5_readsLooker_148 : decode cX5_readsLooker 148 = .ok (.iaload, 1) := by decide +kernel
theorem dX5_readsLooker_149 : decode cX5_readsLooker 149 = .ok (.ifCond .lt 7, 3) := by decide +kernel
theorem dX5_readsLooker_152 : decode cX5_readsLooker 152 = .ok (.iconst 1, 1) := by decide +kernel
theorem dX5_readsLooker_153 : decode cX5_readsLooker 153 = .ok (.goto 4, 3) := by decide +kernel
theorem dX5_readsLooker_156 : decode cX5_readsLooker 156 = .ok (.iconst 0, 1) := by decide +kernel
theorem dX5_readsLooker_157 : decode cX5_readsLooker 157 = .ok (.ireturn, 1) := by decide +kernel
set_option maxRecDepth 20000 in
theorem tkX5_readsLooker : ∀ q ∈ tbX5_readsLooker, xOk (Zm false yX5_readsLooker.name) RX5 cX5_readsLooker 4 (some .boolean) pT pY q :=
  fa_c (ok_p (xg_load _ _ _) (x_aload_n dX5_readsLooker_0 rfl)) <|
  fa_c (ok_p (xg_load _ _ _) (x_iload_n dX5_readsLooker_1 rfl)) <|
  fa_c (ok_p (xg_load _ _ _) (x_iload_n dX5_readsLooker_2 rfl)) <|
  fa_c (ok_c pT_132 pY_132 (x_callV (n := 2) (C := RX5) (T := TX5) (N := 34) rfl rfl kw812 kw814 kw30 kw63 kw815 (by decide +kernel) dX5_readsLooker_3)) <|
  fa_c (ok_p (xg_st _ _) (x_bipush dX5_readsLooker_6 rfl)) <|
  fa_c (ok_p (xg_icmp _ _ _) (x_icmp_ne dX5_readsLooker_8 (by decide))) <|
  fa_c (ok_p (xg_load _ _ _) (x_aload_n dX5_readsLooker_11 rfl)) <|
  fa_c (ok_p (xg_getf _ _ _) (x_getf (C := RX5) (T := TX5) (N := 34) rfl (by decide) inX5 kw693 dX5_readsLooker_12)) <|
  fa_c (ok_p (xg_st _ _) (x_iconst dX5_readsLooker_15 rfl)) <|
  fa_c (ok_p (xg_icmp _ _ _) (x_icmp_eq dX5_readsLooker_16 (by decide))) <|
  fa_c (ok_p (xg_load _ _ _) (x_aload_n dX5_readsLooker_19 rfl)) <|
  fa_c (ok_p (xg_getf _ _ _) (x_getf (C := RX5) (T := TX5) (N := 34) rfl (by decide) inX5 kw693 dX5_readsLooker_20)) <|
  fa_c (ok_p (xg_load _ _ _) (x_aload_n dX5_readsLooker_23 rfl)) <|
  fa_c (ok_p (xg_getf _ _ _) (x_getf (C := RX5) (T := TX5) (N := 34) rfl (by decide) inX5 kw691 dX5_readsLooker_24)) <|
  fa_c (ok_p (xg_icmp _ _ _) (x_icmp_ne dX5_readsLooker_27 (by decide))) <|
  fa_c (ok_p (xg_st _ _) (x_iconst dX5_readsLooker_30 rfl)) <|
  fa_c (ok_r ⟨rfl, dX5_readsLooker_31⟩) <|
  fa_c (ok_p (xg_load _ _ _) (x_aload_n dX5_readsLooker_32 rfl)) <|
  fa_c (ok_p (xg_st _ _) (x_dup dX5_readsLooker_33)) <|
  fa_c (ok_p (xg_getf _ _ _) (x_getf (C := RX5) (T := TX5) (N := 34) rfl (by decide) inX5 kw690 dX5_readsLooker_34)) <|
  fa_c (ok_p (xg_st _ _) (x_iconst dX5_readsLooker_37 rfl)) <|
  fa_c (ok_p (xg_st _ _) (x_iadd dX5_readsLooker_38)) <|
  fa_c (ok_p (xg_putf _ _ _ _) (x_putfof (C := RX5) (T := TX5) (N := 34) tyX5 tyX5_ok nmX5 rfl (by decide) inX5 kw690 dX5_readsLooker_39 (tyX5_ok 12 (by decide)) (fun _ _ _ _ _ _ => Or.inl rfl))) <|
  fa_c (ok_p (xg_load _ _ _) (x_aload_n dX5_readsLooker_42 rfl)) <|
  fa_c (ok_p (xg_load _ _ _) (x_iload_n dX5_readsLooker_43 rfl)) <|
  fa_c (ok_p (xg_load _ _ _) (x_iload_n dX5_readsLooker_44 rfl)) <|
  fa_c (ok_c pT_132 pY_132 (x_callV (n := 2) (C := RX5) (T := TX5) (N := 34) rfl rfl kw812 kw814 kw30 kw63 kw815 (by decide +kernel) dX5_readsLooker_45)) <|
  fa_c (ok_p (xg_store _ _ _) (x_istore_n dX5_readsLooker_48 rfl)) <|
  fa_c (ok_p (xg_load _ _ _) (x_iload_n dX5_readsLooker_49 rfl)) <|
  fa_c (ok_p (xg_st _ _) (x_bipush dX5_readsLooker_50 rfl)) <|
  fa_c (ok_p (xg_icmp _ _ _) (x_icmp_eq dX5_readsLooker_52 (by decide))) <|
  fa_c (ok_p (xg_load _ _ _) (x_iload_n dX5_readsLooker_55 rfl)) <|
  fa_c (ok_p (xg_st _ _) (x_bipush dX5_readsLooker_56 rfl)) <|
  fa_c (ok_p (xg_icmp _ _ _) (x_icmp_eq dX5_readsLooker_58 (by decide))) <|
  fa_c (ok_p (xg_load _ _ _) (x_iload_n dX5_readsLooker_61 rfl)) <|
  fa_c (ok_p (xg_st _ _) (x_bipush dX5_readsLooker_62 rfl)) <|
  fa_c (ok_p (xg_icmp _ _ _) (x_icmp_eq dX5_readsLooker_64 (by decide))) <|
  fa_c (ok_p (xg_st _ _) (x_iconst dX5_readsLooker_67 rfl)) <|
  fa_c (ok_r ⟨rfl, dX5_readsLooker_68⟩) <|
  fa_c (ok_p (xg_load _ _ _) (x_aload_n dX5_readsLooker_69 rfl)) <|
  fa_c (ok_p (xg_st _ _) (x_dup dX5_readsLooker_70)) <|
  fa_c (ok_p (xg_getf _ _ _) (x_getf (C := RX5) (T := TX5) (N := 34) rfl (by decide) inX5 kw690 dX5_readsLooker_71)) <|
  fa_c (ok_p (xg_st _ _) (x_iconst dX5_readsLooker_74 rfl)) <|
  fa_c (ok_p (xg_st _ _) (x_iadd dX5_readsLooker_75)) <|
  fa_c (ok_p (xg_putf _ _ _ _) (x_putfof (C := RX5) (T := TX5) (N := 34) tyX5 tyX5_ok nmX5 rfl (by decide) inX5 kw690 dX5_readsLooker_76 (tyX5_ok 12 (by decide)) (fun _ _ _ _ _ _ => Or.inl rfl))) <|
  fa_c (ok_p (xg_load _ _ _) (x_aload_n dX5_readsLooker_79 rfl)) <|
  fa_c (ok_p (xg_getf _ _ _) (x_getf (C := RX5) (T := TX5) (N := 34) rfl (by decide) inX5 kw697 dX5_readsLooker_80)) <|
  fa_c (ok_p (xg_load _ _ _) (x_aload_n dX5_readsLooker_83 rfl)) <|
  fa_c (ok_p (xg_getf _ _ _) (x_getf (C := RX5) (T := TX5) (N := 34) rfl (by decide) inX5 kw693 dX5_readsLooker_84)) <|
  fa_c (ok_p (xg_load _ _ _) (x_iload_n dX5_readsLooker_87 rfl)) <|
  fa_c (ok_p (xg_st _ _) (x_bipush dX5_readsLooker_88 rfl)) <|
  fa_c (ok_p (xg_icmp _ _ _) (x_icmp_ne dX5_readsLooker_90 (by decide))) <|
  fa_c (ok_p (xg_st _ _) (x_iconst dX5_readsLooker_93 rfl)) <|
  fa_c (ok_p (xg_st _ _) (x_goto dX5_readsLooker_94 (by decide))) <|
  fa_c (ok_p (xg_load _ _ _) (x_iload_n dX5_readsLooker_97 rfl)) <|
  fa_c (ok_p (xg_st _ _) (x_bipush dX5_readsLooker_98 rfl)) <|
  fa_c (ok_p (xg_icmp _ _ _) (x_icmp_ne dX5_readsLooker_100 (by decide))) <|
  fa_c (ok_p (xg_st _ _) (x_iconst dX5_readsLooker_103 rfl)) <|
  fa_c (ok_p (xg_st _ _) (x_goto dX5_readsLooker_104 (by decide))) <|
  fa_c (ok_p (xg_st _ _) (x_iconst dX5_readsLooker_107 rfl)) <|
  fa_c (ok_p (xg_iast _) (x_iast dX5_readsLooker_108)) <|
  fa_c (ok_p (xg_load _ _ _) (x_aload_n dX5_readsLooker_109 rfl)) <|
  fa_c (ok_p (xg_getf _ _ _) (x_getf (C := RX5) (T := TX5) (N := 34) rfl (by decide) inX5 kw698 dX5_readsLooker_110)) <|
  fa_c (ok_p (xg_load _ _ _) (x_aload_n dX5_readsLooker_113 rfl)) <|
  fa_c (ok_p (xg_getf _ _ _) (x_getf (C := RX5) (T := TX5) (N := 34) rfl (by decide) inX5 kw693 dX5_readsLooker_114)) <|
  fa_c (ok_p (xg_load _ _ _) (x_aload_n dX5_readsLooker_117 rfl)) <|
  fa_c (ok_p (xg_load _ _ _) (x_iload_n dX5_readsLooker_118 rfl)) <|
  fa_c (ok_p (xg_load _ _ _) (x_iload_n dX5_readsLooker_119 rfl)) <|
  fa_c (ok_p (xg_st _ _) (x_iconst dX5_readsLooker_120 rfl)) <|
  fa_c (ok_p (xg_st _ _) (x_iconst dX5_readsLooker_121 rfl)) <|
  fa_c (ok_p (xg_st _ _) (x_bipush dX5_readsLooker_122 rfl)) <|
  fa_c (ok_c pT_133 pY_133 (x_callV (n := 5) (C := RX5) (T := TX5) (N := 34) rfl rfl kw820 kw822 kw32 kw63 kw823 (by decide +kernel) dX5_readsLooker_124)) <|
  fa_c (ok_p (xg_iast _) (x_iast dX5_readsLooker_127)) <|
  fa_c (ok_p (xg_load _ _ _) (x_aload_n dX5_readsLooker_128 rfl)) <|
  fa_c (ok_p (xg_st _ _) (x_dup dX5_readsLooker_129)) <|
  fa_c (ok_p (xg_getf _ _ _) (x_getf (C := RX5) (T := TX5) (N := 34) rfl (by decide) inX5 kw693 dX5_readsLooker_130)) <|
  fa_c (ok_p (xg_st _ _) (x_iconst dX5_readsLooker_133 rfl)) <|
  fa_c (ok_p (xg_st _ _) (x_iadd dX5_readsLooker_134)) <|
  fa_c (ok_p (xg_putf _ _ _ _) (x_putfof (C := RX5) (T := TX5) (N := 34) tyX5 tyX5_ok nmX5 rfl (by decide) inX5 kw693 dX5_readsLooker_135 (tyX5_ok 15 (by decide)) (fun _ _ _ _ _ _ => Or.inl rfl))) <|
  fa_c (ok_p (xg_load _ _ _) (x_aload_n dX5_readsLooker_138 rfl)) <|
  fa_c (ok_p (xg_getf _ _ _) (x_getf (C := RX5) (T := TX5) (N := 34) rfl (by decide) inX5 kw698 dX5_readsLooker_139)) <|
  fa_c (ok_p (xg_load _ _ _) (x_aload_n dX5_readsLooker_142 rfl)) <|
  fa_c (ok_p (xg_getf _ _ _) (x_getf (C := RX5) (T := TX5) (N := 34) rfl (by decide) inX5 kw693 dX5_readsLooker_143)) <|
  fa_c (ok_p (xg_st _ _) (x_iconst dX5_readsLooker_146 rfl)) <|
  fa_c (ok_p (xg_st _ _) (x_isub dX5_readsLooker_147)) <|
  fa_c (ok_p (xg_iald _) (x_iald dX5_readsLooker_148)) <|
  fa_c (ok_p (xg_if _ _ _) (x_if_lt dX5_readsLooker_149 (by decide))) <|
  fa_c (ok_p (xg_st _ _) (x_iconst dX5_readsLooker_152 rfl)) <|
  fa_c (ok_p (xg_st _ _) (x_goto dX5_readsLooker_153 (by decide))) <|
  fa_c (ok_p (xg_st _ _) (x_iconst dX5_readsLooker_156 rfl)) <|
  fa_c (ok_r ⟨rfl, dX5_readsLooker_157⟩) <|
  fa_n
theorem dX5_readsSea_0 : decode cX5_readsSea 0 = .ok (.aload_n 0, 1) := by decide +kernel
theorem dX5_readsSea_1 : decode cX5_readsSea 1 = .ok (.iconst 0, 1) := by decide +kernel
theorem dX5_readsSea_2 : decode cX5_readsSea 2 = .ok (.putfield 75, 3) := by decide +kernel
theorem dX5_readsSea_5 : decode cX5_readsSea 5 = .ok (.aload_n 0, 1) := by decide +kernel
theorem dX5_readsSea_6 : decode cX5_readsSea 6 = .ok (.iconst 0, 1) := by decide +kernel
theorem dX5_readsSea_7 : decode cX5_readsSea 7 = .ok (.putfield 92, 3) := by decide +kernel
theorem dX5_readsSea_10 : decode cX5_readsSea 10 = .ok (.aload_n 0, 1) := by decide +kernel
theorem dX5_readsSea_11 : decode cX5_readsSea 11 = .ok (.iload_n 1, 1) := by decide +kernel
theorem dX5_readsSea_12 : decode cX5_readsSea 12 = .ok (.iload_n 2, 1) := by decide +kernel
theorem dX5_readsSea_13 : decode cX5_readsSea 13 = .ok (.invokevirtual 78, 3) := by decide +kernel
theorem dX5_readsSea_16 : decode cX5_readsSea 16 = .ok (.bipush 102, 2) := by decide +kernel
theorem dX5_readsSea_18 : decode cX5_readsSea 18 = .ok (.if_icmp .eq 5, 3) := by decide +kernel
theorem dX5_readsSea_21 : decode cX5_readsSea 21 = .ok (.iconst 0, 1) := by decide +kernel
theorem dX5_readsSea_22 : decode cX5_readsSea 22 = .ok (.ireturn, 1) := by decide +kernel
theorem dX5_readsSea_23 : decode cX5_readsSea 23 = .ok (.aload_n 0, 1) := by decide +kernel
theorem dX5_readsSea_24 : decode cX5_readsSea 24 = .ok (.dup, 1) := by decide +kernel
theorem dX5_readsSea_25 : decode cX5_readsSea 25 = .ok (.getfield 75, 3) := by decide +kernel
theorem dX5_readsSea_28 : decode cX5_readsSea 28 = .ok (.iconst 1, 1) := by decide +kernel
theorem dX5_readsSea_29 : decode cX5_readsSea 29 = .ok (.iadd, 1) := by decide +kernel
theorem dX5_readsSea_30 : decode cX5_readsSea 30 = .ok (.putfield 75, 3) := by decide +kernel
theorem dX5_readsSea_33 : decode cX5_readsSea 33 = .ok (.aload_n 0, 1) := by decide +kernel
theorem dX5_readsSea_34 : decode cX5_readsSea 34 = .ok (.iload_n 1, 1) := by decide +kernel
theorem dX5_readsSea_35 : decode cX5_readsSea 35 = .ok (.iload_n 2, 1) := by decide +kernel
theorem dX5_readsSea_36 : decode cX5_readsSea 36 = .ok (.invokevirtual 95, 3) := by decide +kernel
theorem dX5_readsSea_39 : decode cX5_readsSea 39 = .ok (.istore_n 3, 1) := by decide +kernel
theorem dX5_readsSea_40 : decode cX5_readsSea 40 = .ok (.iload_n 3, 1) := by decide +kernel
theorem dX5_readsSea_41 : decode cX5_readsSea 41 = .ok (.ifCond .eq 31, 3) := by decide +kernel
theorem dX5_readsSea_44 : decode cX5_readsSea 44 = .ok (.aload_n 0, 1) := by decide +kernel
theorem dX5_readsSea_45 : decode cX5_readsSea 45 = .ok (.getfield 92, 3) := by decide +kernel
theorem dX5_readsSea_48 : decode cX5_readsSea 48 = .ok (.ifCond .eq 14, 3) := by decide +kernel
theorem dX5_readsSea_51 : decode cX5_readsSea 51 = .ok (.aload_n 0, 1) := by decide +kernel
theorem dX5_readsSea_52 : decode cX5_readsSea 52 = .ok (.iload_n 1, 1) := by decide +kernel
theorem dX5_readsSea_53 : decode cX5_readsSea 53 = .ok (.iload_n 2, 1) := by decide +kernel
theorem dX5_readsSea_54 : decode cX5_readsSea 54 = .ok (.invokevirtual 78, 3) := by decide +kernel
theorem dX5_readsSea_57 : decode cX5_readsSea 57 = .ok (.bipush 47, 2) := by decide +kernel
theorem dX5_readsSea_59 : decode cX5_readsSea 59 = .ok (.if_icmp .eq 13, 3) := by decide +kernel
theorem dX5_readsSea_62 : decode cX5_readsSea 62 = .ok (.aload_n 0, 1) := by decide +kernel
theorem dX5_readsSea_63 : decode cX5_readsSea 63 = .ok (.iload_n 1, 1) := by decide +kernel
theorem dX5_readsSea_64 : decode cX5_readsSea 64 = .ok (.iload_n 2, 1) := by decide +kernel
theorem dX5_readsSea_65 : decode cX5_readsSea 65 = .ok (.invokevirtual 99, 3) := by decide +kernel
theorem dX5_readsSea_68 : decode cX5_readsSea 68 = .ok (.istore_n 3, 1) := by decide +kernel
theorem dX5_readsSea_69 : decode cX5_readsSea 69 = .ok (.goto (-29), 3) := by decide +kernel
theorem dX5_readsSea_72 : decode cX5_readsSea 72 = .ok (.iload_n 3, 1) := by decide +kernel
theorem dX5_readsSea_73 : decode cX5_readsSea 73 = .ok (.ifCond .ne 5, 3) := by decide +kernel
theorem dX5_readsSea_76 : decode cX5_readsSea 76 = .ok (.iconst 0, 1) := by decide +kernel
theorem dX5_readsSea_77 : decode cX5_readsSea 77 = .ok (.ireturn, 1) := by decide +kernel
theorem dX5_readsSea_78 : decode cX5_readsSea 78 = .ok (.aload_n 0, 1) := by decide +kernel
theorem dX5_readsSea_79 : decode cX5_readsSea 79 = .ok (.dup, 1) := by decide +kernel
theorem dX5_readsSea_80 : decode cX5_readsSea 80 = .ok (.getfield 75, 3) := by decide +kernel
theorem dX5_readsSea_83 : decode cX5_readsSea 83 = .ok (.iconst 1, 1) := by decide +kernel
theorem dX5_readsSea_84 : decode cX5_readsSea 84 = .ok (.iadd, 1) := by decide +kernel
theorem dX5_readsSea_85 : decode cX5_readsSea 85 = .ok (.putfield 75, 3) := by decide +kernel
theorem dX5_readsSea_88 : decode cX5_readsSea 88 = .ok (.aload_n 0, 1) := by decide +kernel
theorem dX5_readsSea_89 : decode cX5_readsSea 89 = .ok (.aload_n 0, 1) := by decide +kernel
theorem dX5_readsSea_90 : decode cX5_readsSea 90 = .ok (.iload_n 1, 1) := by decide +kernel
theorem dX5_readsSea_91 : decode cX5_readsSea 91 = .ok (.iload_n 2, 1) := by decide +kernel
theorem dX5_readsSea_92 : decode cX5_readsSea 92 = .ok (.iconst 0, 1) := by decide +kernel
theorem dX5_readsSea_93 : decode cX5_readsSea 93 = .ok (.iconst 0, 1) := by decide +kernel
theorem dX5_readsSea_94 : decode cX5_readsSea 94 = .ok (.aload_n 0, 1) := by decide +kernel
theorem dX5_readsSea_95 : decode cX5_readsSea 95 = .ok (.getfield 86, 3) := by decide +kernel
theorem dX5_readsSea_98 : decode cX5_readsSea 98 = .ok (.aload_n 0, 1) := by decide +kernel
theorem dX5_readsSea_99 : decode cX5_readsSea 99 = .ok (.getfield 92, 3) := by decide +kernel
theorem dX5_readsSea_102 : decode cX5_readsSea 102 = .ok (.isub, 1) := by decide +kernel
theorem dX5_readsSea_103 : decode cX5_readsSea 103 = .ok (.invokevirtual 82, 3) := by decide +kernel
theorem dX5_readsSea_106 : decode cX5_readsSea 106 = .ok (.putfield 102, 3) := by decide +kernel
theorem dX5_readsSea_109 : decode cX5_readsSea 109 = .ok (.aload_n 0, 1) := by decide +kernel
theorem dX5_readsSea_110 : decode cX5_readsSea 110 = .ok (.aload_n 0, 1) := by decide +kernel
theorem dX5_readsSea_111 : decode cX5_readsSea 111 = .ok (.iload_n 1, 1) := by decide +kernel
theorem dX5_readsSea_112 : decode cX5_readsSea 112 = .ok (.iload_n 2, 1) := by decide +kernel
theorem dX5_readsSea_113 : decode cX5_readsSea 113 = .ok (.aload_n 0, 1) := by decide +kernel
theorem dX5_readsSea_114 : decode cX5_readsSea 114 = .ok (.getfield 102, 3) := by decide +kernel
theorem dX5_readsSea_117 : decode cX5_readsSea 117 = .ok (.iconst 0, 1) := by decide +kernel
theorem dX5_readsSea_118 : decode cX5_readsSea 118 = .ok (.aload_n 0, 1) := by decide +kernel
theorem dX5_readsSea_119 : decode cX5_readsSea 119 = .ok (.getfield 89, 3) := by decide +kernel
theorem dX5_readsSea_122 : decode cX5_readsSea 122 = .ok (.iconst 1, 1) := by decide +kernel
theorem dX5_readsSea_123 : decode cX5_readsSea 123 = .ok (.isub, 1) := by decide +kernel
theorem dX5_readsSea_124 : decode cX5_readsSea 124 = .ok (.invokevirtual 82, 3) := by decide +kernel
theorem dX5_readsSea_127 : decode cX5_readsSea 127 = .ok (.putfield 105, 3) := by decide +kernel
theorem dX5_readsSea_130 : decode cX5_readsSea 130 = .ok (.aload_n 0, 1) := by decide +kernel
theorem dX5_readsSea_131 : decode cX5_readsSea 131 = .ok (.getfield 105, 3) := by decide +kernel
theorem dX5_readsSea_134 : decode cX5_readsSea 134 = .ok (.ifCond .lt 15, 3) := by decide +kernel
theorem dX5_readsSea_137 : decode cX5_readsSea 137 = .ok (.aload_n 0, 1) := by decide +kernel
theorem dX5_readsSea_138 : decode cX5_readsSea 138 = .ok (.getfield 75, 3) := by decide +kernel
theorem dX5_readsSea_141 : decode cX5_readsSea 141 = .ok (.iload_n 2, 1) := by decide +kernel
theorem dX5_readsSea_142 : decode cX5_readsSea 142 = .ok (.if_icmp .ne 7, 3) := by decide +kernel
theorem dX5_readsSea_145 : decode cX5_readsSea 145 = .ok (.iconst 1, 1) := by decide +kernel
theorem dX5_readsSea_146 : decode cX5_readsSea 146 = .ok (.goto 4, 3) := by decide +kernel
theorem dX5_readsSea_149 : decode cX5_readsSea 149 = .ok (.iconst 0, 1) := by decide +kernel
theorem dX5_readsSea_150 : decode cX5_readsSea 150 = .ok (.ireturn, 1) := by decide +kernel
set_option maxRecDepth 20000 in
theorem tkX5_readsSea : ∀ q ∈ tbX5_readsSea, xOk (Zm false yX5_readsSea.name) RX5 cX5_readsSea 4 (some .boolean) pT pY q :=
  fa_c (ok_p (xg_load _ _ _) (x_aload_n dX5_readsSea_0 rfl)) <|
  fa_c (ok_p (xg_st _ _) (x_iconst dX5_readsSea_1 rfl)) <|
  fa_c (ok_p (xg_putf _ _ _ _) (x_putfof (C := RX5) (T := TX5) (N := 34) tyX5 tyX5_ok nmX5 rfl (by decide) inX5 kw690 dX5_readsSea_2 (tyX5_ok 12 (by decide)) (fun _ _ _ _ _ _ => Or.inl rfl))) <|
  fa_c (ok_p (xg_load _ _ _) (x_aload_n dX5_readsSea_5 rfl)) <|
  fa_c (ok_p (xg_st _ _) (x_iconst dX5_readsSea_6 rfl)) <|
  fa_c (ok_p (xg_putf _ _ _ _) (x_putfof (C := RX5) (T := TX5) (N := 34) tyX5 tyX5_ok nmX5 rfl (by decide) inX5 kw693 dX5_readsSea_7 (tyX5_ok 15 (by decide)) (fun _ _ _ _ _ _ => Or.inl rfl))) <|
  fa_c (ok_p (xg_load _ _ _) (x_aload_n dX5_readsSea_10 rfl)) <|
  fa_c (ok_p (xg_load _ _ _) (x_iload_n dX5_readsSea_11 rfl)) <|
  fa_c (ok_p (xg_load _ _ _) (x_iload_n dX5_readsSea_12 rfl)) <|
  fa_c (ok_c pT_132 pY_132 (x_callV (n := 2) (C := RX5) (T := TX5) (N := 34) rfl rfl kw812 kw814 kw30 kw63 kw815 (by decide +kernel) dX5_readsSea_13)) <|
  fa_c (ok_p (xg_st _ _) (x_bipush dX5_readsSea_16 rfl)) <|
  fa_c (ok_p (xg_icmp _ _ _) (x_icmp_eq dX5_readsSea_18 (by decide))) <|
  fa_c (ok_p (xg_st _ _) (x_iconst dX5_readsSea_21 rfl)) <|
  fa_c (ok_r ⟨rfl, dX5_readsSea_22⟩) <|
  fa_c (ok_p (xg_load _ _ _) (x_aload_n dX5_readsSea_23 rfl)) <|
  fa_c (ok_p (xg_st _ _) (x_dup dX5_readsSea_24)) <|
  fa_c (ok_p (xg_getf _ _ _) (x_getf (C := RX5) (T := TX5) (N := 34) rfl (by decide) inX5 kw690 dX5_readsSea_25)) <|
  fa_c (ok_p (xg_st _ _) (x_iconst dX5_readsSea_28 rfl)) <|
  fa_c (ok_p (xg_st _ _) (x_iadd dX5_readsSea_29)) <|
  fa_c (ok_p (xg_putf _ _ _ _) (x_putfof (C := RX5) (T := TX5) (N := 34) tyX5 tyX5_ok nmX5 rfl (by decide) inX5 kw690 dX5_readsSea_30 (tyX5_ok 12 (by decide)) (fun _ _ _ _ _ _ => Or.inl rfl))) <|
  fa_c (ok_p (xg_load _ _ _) (x_aload_n dX5_readsSea_33 rfl)) <|
  fa_c (ok_p (xg_load _ _ _) (x_iload_n dX5_readsSea_34 rfl)) <|
  fa_c (ok_p (xg_load _ _ _) (x_iload_n dX5_readsSea_35 rfl)) <|
  fa_c (ok_c pT_134 pY_134 (x_callV (n := 2) (C := RX5) (T := TX5) (N := 34) rfl rfl kw816 kw818 kw31 kw63 kw819 (by decide +kernel) dX5_readsSea_36)) <|
  fa_c (ok_p (xg_store _ _ _) (x_istore_n dX5_readsSea_39 rfl)) <|
  fa_c (ok_p (xg_load _ _ _) (x_iload_n dX5_readsSea_40 rfl)) <|
  fa_c (ok_p (xg_if _ _ _) (x_if_eq dX5_readsSea_41 (by decide))) <|
  fa_c (ok_p (xg_load _ _ _) (x_aload_n dX5_readsSea_44 rfl)) <|
  fa_c (ok_p (xg_getf _ _ _) (x_getf (C := RX5) (T := TX5) (N := 34) rfl (by decide) inX5 kw693 dX5_readsSea_45)) <|
  fa_c (ok_p (xg_if _ _ _) (x_if_eq dX5_readsSea_48 (by decide))) <|
  fa_c (ok_p (xg_load _ _ _) (x_aload_n dX5_readsSea_51 rfl)) <|
  fa_c (ok_p (xg_load _ _ _) (x_iload_n dX5_readsSea_52 rfl)) <|
  fa_c (ok_p (xg_load _ _ _) (x_iload_n dX5_readsSea_53 rfl)) <|
  fa_c (ok_c pT_132 pY_132 (x_callV (n := 2) (C := RX5) (T := TX5) (N := 34) rfl rfl kw812 kw814 kw30 kw63 kw815 (by decide +kernel) dX5_readsSea_54)) <|
  fa_c (ok_p (xg_st _ _) (x_bipush dX5_readsSea_57 rfl)) <|
  fa_c (ok_p (xg_icmp _ _ _) (x_icmp_eq dX5_readsSea_59 (by decide))) <|
  fa_c (ok_p (xg_load _ _ _) (x_aload_n dX5_readsSea_62 rfl)) <|
  fa_c (ok_p (xg_load _ _ _) (x_iload_n dX5_readsSea_63 rfl)) <|
  fa_c (ok_p (xg_load _ _ _) (x_iload_n dX5_readsSea_64 rfl)) <|
  fa_c (ok_c pT_135 pY_135 (x_callV (n := 2) (C := RX5) (T := TX5) (N := 34) rfl rfl kw824 kw826 kw33 kw63 kw827 (by decide +kernel) dX5_readsSea_65)) <|
  fa_c (ok_p (xg_store _ _ _) (x_istore_n dX5_readsSea_68 rfl)) <|
  fa_c (ok_p (xg_st _ _) (x_goto dX5_readsSea_69 (by decide))) <|
  fa_c (ok_p (xg_load _ _ _) (x_iload_n dX5_readsSea_72 rfl)) <|
  fa_c (ok_p (xg_if _ _ _) (x_if_ne dX5_readsSea_73 (by decide))) <|
  fa_c (ok_p (xg_st _ _) (x_iconst dX5_readsSea_76 rfl)) <|
  fa_c (ok_r ⟨rfl, dX5_readsSea_77⟩) <|
  fa_c (ok_p (xg_load _ _ _) (x_aload_n dX5_readsSea_78 rfl)) <|
  fa_c (ok_p (xg_st _ _) (x_dup dX5_readsSea_79)) <|
  fa_c (ok_p (xg_getf _ _ _) (x_getf (C := RX5) (T := TX5) (N := 34) rfl (by decide) inX5 kw690 dX5_readsSea_80)) <|
  fa_c (ok_p (xg_st _ _) (x_iconst dX5_readsSea_83 rfl)) <|
  fa_c (ok_p (xg_st _ _) (x_iadd dX5_readsSea_84)) <|
  fa_c (ok_p (xg_putf _ _ _ _) (x_putfof (C := RX5) (T := TX5) (N := 34) tyX5 tyX5_ok nmX5 rfl (by decide) inX5 kw690 dX5_readsSea_85 (tyX5_ok 12 (by decide)) (fun _ _ _ _ _ _ => Or.inl rfl))) <|
  fa_c (ok_p (xg_load _ _ _) (x_aload_n dX5_readsSea_88 rfl)) <|
  fa_c (ok_p (xg_load _ _ _) (x_aload_n dX5_readsSea_89 rfl)) <|
  fa_c (ok_p (xg_load _ _ _) (x_iload_n dX5_readsSea_90 rfl)) <|
  fa_c (ok_p (xg_load _ _ _) (x_iload_n dX5_readsSea_91 rfl)) <|
  fa_c (ok_p (xg_st _ _) (x_iconst dX5_readsSea_92 rfl)) <|
  fa_c (ok_p (xg_st _ _) (x_iconst dX5_readsSea_93 rfl)) <|
  fa_c (ok_p (xg_load _ _ _) (x_aload_n dX5_readsSea_94 rfl)) <|
  fa_c (ok_p (xg_getf _ _ _) (x_getf (C := RX5) (T := TX5) (N := 34) rfl (by decide) inX5 kw691 dX5_readsSea_95)) <|
  fa_c (ok_p (xg_load _ _ _) (x_aload_n dX5_readsSea_98 rfl)) <|
  fa_c (ok_p (xg_getf _ _ _) (x_getf (C := RX5) (T := TX5) (N := 34) rfl (by decide) inX5 kw693 dX5_readsSea_99)) <|
  fa_c (ok_p (xg_st _ _) (x_isub dX5_readsSea_102)) <|
  fa_c (ok_c pT_133 pY_133 (x_callV (n := 5) (C := RX5) (T := TX5) (N := 34) rfl rfl kw820 kw822 kw32 kw63 kw823 (by decide +kernel) dX5_readsSea_103)) <|
  fa_c (ok_p (xg_putf _ _ _ _) (x_putfof (C := RX5) (T := TX5) (N := 34) tyX5 tyX5_ok nmX5 rfl (by decide) inX5 kw694 dX5_readsSea_106 (tyX5_ok 16 (by decide)) (fun _ _ _ _ _ _ => Or.inl rfl))) <|
  fa_c (ok_p (xg_load _ _ _) (x_aload_n dX5_readsSea_109 rfl)) <|
  fa_c (ok_p (xg_load _ _ _) (x_aload_n dX5_readsSea_110 rfl)) <|
  fa_c (ok_p (xg_load _ _ _) (x_iload_n dX5_readsSea_111 rfl)) <|
  fa_c (ok_p (xg_load _ _ _) (x_iload_n dX5_readsSea_112 rfl)) <|
  fa_c (ok_p (xg_load _ _ _) (x_aload_n dX5_readsSea_113 rfl)) <|
  fa_c (ok_p (xg_getf _ _ _) (x_getf (C := RX5) (T := TX5) (N := 34) rfl (by decide) inX5 kw694 dX5_readsSea_114)) <|
  fa_c (ok_p (xg_st _ _) (x_iconst dX5_readsSea_117 rfl)) <|
  fa_c (ok_p (xg_load _ _ _) (x_aload_n dX5_readsSea_118 rfl)) <|
  fa_c (ok_p (xg_getf _ _ _) (x_getf (C := RX5) (T := TX5) (N := 34) rfl (by decide) inX5 kw692 dX5_readsSea_119)) <|
  fa_c (ok_p (xg_st _ _) (x_iconst dX5_readsSea_122 rfl)) <|
  fa_c (ok_p (xg_st _ _) (x_isub dX5_readsSea_123)) <|
  fa_c (ok_c pT_133 pY_133 (x_callV (n := 5) (C := RX5) (T := TX5) (N := 34) rfl rfl kw820 kw822 kw32 kw63 kw823 (by decide +kernel) dX5_readsSea_124)) <|
  fa_c (ok_p (xg_putf _ _ _ _) (x_putfof (C := RX5) (T := TX5) (N := 34) tyX5 tyX5_ok nmX5 rfl (by decide) inX5 kw695 dX5_readsSea_127 (tyX5_ok 17 (by decide)) (fun _ _ _ _ _ _ => Or.inl rfl))) <|
  fa_c (ok_p (xg_load _ _ _) (x_aload_n dX5_readsSea_130 rfl)) <|
  fa_c (ok_p (xg_getf _ _ _) (x_getf (C := RX5) (T := TX5) (N := 34) rfl (by decide) inX5 kw695 dX5_readsSea_131)) <|
  fa_c (ok_p (xg_if _ _ _) (x_if_lt dX5_readsSea_134 (by decide))) <|
  fa_c (ok_p (xg_load _ _ _) (x_aload_n dX5_readsSea_137 rfl)) <|
  fa_c (ok_p (xg_getf _ _ _) (x_getf (C := RX5) (T := TX5) (N := 34) rfl (by decide) inX5 kw690 dX5_readsSea_138)) <|
  fa_c (ok_p (xg_load _ _ _) (x_iload_n dX5_readsSea_141 rfl)) <|
  fa_c (ok_p (xg_icmp _ _ _) (x_icmp_ne dX5_readsSea_142 (by decide))) <|
  fa_c (ok_p (xg_st _ _) (x_iconst dX5_readsSea_145 rfl)) <|
  fa_c (ok_p (xg_st _ _) (x_goto dX5_readsSea_146 (by decide))) <|
  fa_c (ok_p (xg_st _ _) (x_iconst dX5_readsSea_149 rfl)) <|
  fa_c (ok_r ⟨rfl, dX5_readsSea_150⟩) <|
  fa_n
theorem dX5_cellsBarred_0 : decode cX5_cellsBarred 0 = .ok (.aload_n 0, 1) := by decide +kernel
theorem dX5_cellsBarred_1 : decode cX5_cellsBarred 1 = .ok (.getfield 40, 3) := by decide +kernel
theorem dX5_cellsBarred_4 : decode cX5_cellsBarred 4 = .ok (.iload_n 1, 1) := by decide +kernel
theorem dX5_cellsBarred_5 : decode cX5_cellsBarred 5 = .ok (.iaload, 1) := by decide +kernel
theorem dX5_cellsBarred_6 : decode cX5_cellsBarred 6 = .ok (.ifCond .lt 19, 3) := by decide +kernel
theorem dX5_cellsBarred_9 : decode cX5_cellsBarred 9 = .ok (.aload_n 0, 1) := by decide +kernel
theorem dX5_cellsBarred_10 : decode cX5_cellsBarred 10 = .ok (.getfield 43, 3) := by decide +kernel
theorem dX5_cellsBarred_13 : decode cX5_cellsBarred 13 = .ok (.iload_n 1, 1) := by decide +kernel
theorem dX5_cellsBarred_14 : decode cX5_cellsBarred 14 = .ok (.iaload, 1) := by decide +kernel
theorem dX5_cellsBarred_15 : decode cX5_cellsBarred 15 = .ok (.iload_n 2, 1) := by decide +kernel
theorem dX5_cellsBarred_16 : decode cX5_cellsBarred 16 = .ok (.if_icmp .eq 9, 3) := by decide +kernel
theorem dX5_cellsBarred_19 : decode cX5_cellsBarred 19 = .ok (.aload_n 0, 1) := by decide +kernel
theorem dX5_cellsBarred_20 : decode cX5_cellsBarred 20 = .ok (.iconst 2, 1) := by decide +kernel
theorem dX5_cellsBarred_21 : decode cX5_cellsBarred 21 = .ok (.invokevirtual 108, 3) := by decide +kernel
theorem dX5_cellsBarred_24 : decode cX5_cellsBarred 24 = .ok (.ireturn, 1) := by decide +kernel
theorem dX5_cellsBarred_25 : decode cX5_cellsBarred 25 = .ok (.aload_n 0, 1) := by decide +kernel
theorem dX5_cellsBarred_26 : decode cX5_cellsBarred 26 = .ok (.getfield 40, 3) := by decide +kernel
theorem dX5_cellsBarred_29 : decode cX5_cellsBarred 29 = .ok (.iload_n 1, 1) := by decide +kernel
theorem dX5_cellsBarred_30 : decode cX5_cellsBarred 30 = .ok (.iaload, 1) := by decide +kernel
theorem dX5_cellsBarred_31 : decode cX5_cellsBarred 31 = .ok (.ifCond .ge 9, 3) := by decide +kernel
theorem dX5_cellsBarred_34 : decode cX5_cellsBarred 34 = .ok (.aload_n 0, 1) := by decide +kernel
theorem dX5_cellsBarred_35 : decode cX5_cellsBarred 35 = .ok (.iconst 1, 1) := by decide +kernel
theorem dX5_cellsBarred_36 : decode cX5_cellsBarred 36 = .ok (.invokevirtual 108, 3) := by decide +kernel
theorem dX5_cellsBarred_39 : decode cX5_cellsBarred 39 = .ok (.ireturn, 1) := by decide +kernel
theorem dX5_cellsBarred_40 : decode cX5_cellsBarred 40 = .ok (.lload 4, 2) := by decide +kernel
theorem dX5_cellsBarred_42 : decode cX5_cellsBarred 42 = .ok (.lconst 0, 1) := by decide +kernel
theorem dX5_cellsBarred_43 : decode cX5_cellsBarred 43 = .ok (.lcmp, 1) := by decide +kernel
theorem dX5_cellsBarred_44 : decode cX5_cellsBarred 44 = .ok (.ifCond .ge 9, 3) := by decide +kernel
theorem dX5_cellsBarred_47 : decode cX5_cellsBarred 47 = .ok (.aload_n 0, 1) := by decide +kernel
theorem dX5_cellsBarred_48 : decode cX5_cellsBarred 48 = .ok (.iconst 4, 1) := by decide +kernel
theorem dX5_cellsBarred_49 : decode cX5_cellsBarred 49 = .ok (.invokevirtual 108, 3) := by decide +kernel
theorem dX5_cellsBarred_52 : decode cX5_cellsBarred 52 = .ok (.ireturn, 1) := by decide +kernel
theorem dX5_cellsBarred_53 : decode cX5_cellsBarred 53 = .ok (.iload_n 3, 1) := by decide +kernel
theorem dX5_cellsBarred_54 : decode cX5_cellsBarred 54 = .ok (.lload 4, 2) := by decide +kernel
theorem dX5_cellsBarred_56 : decode cX5_cellsBarred 56 = .ok (.aload_n 0, 1) := by decide +kernel
theorem dX5_cellsBarred_57 : decode cX5_cellsBarred 57 = .ok (.getfield 40, 3) := by decide +kernel
theorem dX5_cellsBarred_60 : decode cX5_cellsBarred 60 = .ok (.iload_n 1, 1) := by decide +kernel
theorem dX5_cellsBarred_61 : decode cX5_cellsBarred 61 = .ok (.iaload, 1) := by decide +kernel
theorem dX5_cellsBarred_62 : decode cX5_cellsBarred 62 = .ok (.invokestatic 112, 3) := by decide +kernel
theorem dX5_cellsBarred_65 : decode cX5_cellsBarred 65 = .ok (.ifCond .eq 11, 3) := by decide +kernel
theorem dX5_cellsBarred_68 : decode cX5_cellsBarred 68 = .ok (.aload_n 0, 1) := by decide +kernel
theorem dX5_cellsBarred_69 : decode cX5_cellsBarred 69 = .ok (.iconst 3, 1) := by decide +kernel
theorem dX5_cellsBarred_70 : decode cX5_cellsBarred 70 = .ok (.invokevirtual 108, 3) := by decide +kernel
theorem dX5_cellsBarred_73 : decode cX5_cellsBarred 73 = .ok (.goto 4, 3) := by decide +kernel
theorem dX5_cellsBarred_76 : decode cX5_cellsBarred 76 = .ok (.iconst 0, 1) := by decide +kernel
theorem dX5_cellsBarred_77 : decode cX5_cellsBarred 77 = .ok (.ireturn, 1) := by decide +kernel
set_option maxRecDepth 20000 in
theorem tkX5_cellsBarred : ∀ q ∈ tbX5_cellsBarred, xOk (Zm false yX5_cellsBarred.name) RX5 cX5_cellsBarred 6 (some .int) pT pY q :=
  fa_c (ok_p (xg_load _ _ _) (x_aload_n dX5_cellsBarred_0 rfl)) <|
  fa_c (ok_p (xg_getf _ _ _) (x_getf (C := RX5) (T := TX5) (N := 34) rfl (by decide) inX5 kw707 dX5_cellsBarred_1)) <|
  fa_c (ok_p (xg_load _ _ _) (x_iload_n dX5_cellsBarred_4 rfl)) <|
  fa_c (ok_p (xg_iald _) (x_iald dX5_cellsBarred_5)) <|
  fa_c (ok_p (xg_if _ _ _) (x_if_lt dX5_cellsBarred_6 (by decide))) <|
  fa_c (ok_p (xg_load _ _ _) (x_aload_n dX5_cellsBarred_9 rfl)) <|
  fa_c (ok_p (xg_getf _ _ _) (x_getf (C := RX5) (T := TX5) (N := 34) rfl (by decide) inX5 kw708 dX5_cellsBarred_10)) <|
  fa_c (ok_p (xg_load _ _ _) (x_iload_n dX5_cellsBarred_13 rfl)) <|
  fa_c (ok_p (xg_iald _) (x_iald dX5_cellsBarred_14)) <|
  fa_c (ok_p (xg_load _ _ _) (x_iload_n dX5_cellsBarred_15 rfl)) <|
  fa_c (ok_p (xg_icmp _ _ _) (x_icmp_eq dX5_cellsBarred_16 (by decide))) <|
  fa_c (ok_p (xg_load _ _ _) (x_aload_n dX5_cellsBarred_19 rfl)) <|
  fa_c (ok_p (xg_st _ _) (x_iconst dX5_cellsBarred_20 rfl)) <|
  fa_c (ok_c pT_128 pY_128 (x_callV (n := 1) (C := RX5) (T := TX5) (N := 34) rfl rfl kw801 kw803 kw28 kw63 kw804 (by decide +kernel) dX5_cellsBarred_21)) <|
  fa_c (ok_r ⟨rfl, dX5_cellsBarred_24⟩) <|
  fa_c (ok_p (xg_load _ _ _) (x_aload_n dX5_cellsBarred_25 rfl)) <|
  fa_c (ok_p (xg_getf _ _ _) (x_getf (C := RX5) (T := TX5) (N := 34) rfl (by decide) inX5 kw707 dX5_cellsBarred_26)) <|
  fa_c (ok_p (xg_load _ _ _) (x_iload_n dX5_cellsBarred_29 rfl)) <|
  fa_c (ok_p (xg_iald _) (x_iald dX5_cellsBarred_30)) <|
  fa_c (ok_p (xg_if _ _ _) (x_if_ge dX5_cellsBarred_31 (by decide))) <|
  fa_c (ok_p (xg_load _ _ _) (x_aload_n dX5_cellsBarred_34 rfl)) <|
  fa_c (ok_p (xg_st _ _) (x_iconst dX5_cellsBarred_35 rfl)) <|
  fa_c (ok_c pT_128 pY_128 (x_callV (n := 1) (C := RX5) (T := TX5) (N := 34) rfl rfl kw801 kw803 kw28 kw63 kw804 (by decide +kernel) dX5_cellsBarred_36)) <|
  fa_c (ok_r ⟨rfl, dX5_cellsBarred_39⟩) <|
  fa_c (ok_p (xg_load _ _ _) (x_lload dX5_cellsBarred_40)) <|
  fa_c (ok_p (xg_st _ _) (x_lconst dX5_cellsBarred_42 rfl)) <|
  fa_c (ok_p (xg_st _ _) (x_lcmp dX5_cellsBarred_43)) <|
  fa_c (ok_p (xg_if _ _ _) (x_if_ge dX5_cellsBarred_44 (by decide))) <|
  fa_c (ok_p (xg_load _ _ _) (x_aload_n dX5_cellsBarred_47 rfl)) <|
  fa_c (ok_p (xg_st _ _) (x_iconst dX5_cellsBarred_48 rfl)) <|
  fa_c (ok_c pT_128 pY_128 (x_callV (n := 1) (C := RX5) (T := TX5) (N := 34) rfl rfl kw801 kw803 kw28 kw63 kw804 (by decide +kernel) dX5_cellsBarred_49)) <|
  fa_c (ok_r ⟨rfl, dX5_cellsBarred_52⟩) <|
  fa_c (ok_p (xg_load _ _ _) (x_iload_n dX5_cellsBarred_53 rfl)) <|
  fa_c (ok_p (xg_load _ _ _) (x_lload dX5_cellsBarred_54)) <|
  fa_c (ok_p (xg_load _ _ _) (x_aload_n dX5_cellsBarred_56 rfl)) <|
  fa_c (ok_p (xg_getf _ _ _) (x_getf (C := RX5) (T := TX5) (N := 34) rfl (by decide) inX5 kw707 dX5_cellsBarred_57)) <|
  fa_c (ok_p (xg_load _ _ _) (x_iload_n dX5_cellsBarred_60 rfl)) <|
  fa_c (ok_p (xg_iald _) (x_iald dX5_cellsBarred_61)) <|
  fa_c (ok_c pT_185 pY_185 (x_callS (n := 3) rfl kw805 kw806 kw63 kw807 (by decide +kernel) dX5_cellsBarred_62)) <|
  fa_c (ok_p (xg_if _ _ _) (x_if_eq dX5_cellsBarred_65 (by decide))) <|
  fa_c (ok_p (xg_load _ _ _) (x_aload_n dX5_cellsBarred_68 rfl)) <|
  fa_c (ok_p (xg_st _ _) (x_iconst dX5_cellsBarred_69 rfl)) <|
  fa_c (ok_c pT_128 pY_128 (x_callV (n := 1) (C := RX5) (T := TX5) (N := 34) rfl rfl kw801 kw803 kw28 kw63 kw804 (by decide +kernel) dX5_cellsBarred_70)) <|
  fa_c (ok_p (xg_st _ _) (x_goto dX5_cellsBarred_73 (by decide))) <|
  fa_c (ok_p (xg_st _ _) (x_iconst dX5_cellsBarred_76 rfl)) <|
  fa_c (ok_r ⟨rfl, dX5_cellsBarred_77⟩) <|
  fa_n
theorem dX5_sea_0 : decode cX5_sea 0 = .ok (.iload_n 1, 1) := by decide +kernel
theorem dX5_sea_1 : decode cX5_sea 1 = .ok (.invokestatic 116, 3) := by decide +kernel
theorem dX5_sea_4 : decode cX5_sea 4 = .ok (.ifCond .eq 9, 3) := by decide +kernel
theorem dX5_sea_7 : decode cX5_sea 7 = .ok (.aload_n 0, 1) := by decide +kernel
theorem dX5_sea_8 : decode cX5_sea 8 = .ok (.iconst (-1), 1) := by decide +kernel
theorem dX5_sea_9 : decode cX5_sea 9 = .ok (.invokevirtual 120, 3) := by decide +kernel
theorem dX5_sea_12 : decode cX5_sea 12 = .ok (.ireturn, 1) := by decide +kernel
theorem dX5_sea_13 : decode cX5_sea 13 = .ok (.iload_n 2, 1) := by decide +kernel
theorem dX5_sea_14 : decode cX5_sea 14 = .ok (.i2l, 1) := by decide +kernel
theorem dX5_sea_15 : decode cX5_sea 15 = .ok (.lconst 0, 1) := by decide +kernel
theorem dX5_sea_16 : decode cX5_sea 16 = .ok (.ldc2_w 123, 3) := by decide +kernel
theorem dX5_sea_19 : decode cX5_sea 19 = .ok (.invokestatic 65, 3) := by decide +kernel
theorem dX5_sea_22 : decode cX5_sea 22 = .ok (.ifCond .ne 10, 3) := by decide +kernel
theorem dX5_sea_25 : decode cX5_sea 25 = .ok (.aload_n 0, 1) := by decide +kernel
theorem dX5_sea_26 : decode cX5_sea 26 = .ok (.bipush (-2), 2) := by decide +kernel
theorem dX5_sea_28 : decode cX5_sea 28 = .ok (.invokevirtual 120, 3) := by decide +kernel
theorem dX5_sea_31 : decode cX5_sea 31 = .ok (.ireturn, 1) := by decide +kernel
theorem dX5_sea_32 : decode cX5_sea 32 = .ok (.aload_n 0, 1) := by decide +kernel
theorem dX5_sea_33 : decode cX5_sea 33 = .ok (.iload_n 1, 1) := by decide +kernel
theorem dX5_sea_34 : decode cX5_sea 34 = .ok (.iload_n 2, 1) := by decide +kernel
theorem dX5_sea_35 : decode cX5_sea 35 = .ok (.iload_n 3, 1) := by decide +kernel
theorem dX5_sea_36 : decode cX5_sea 36 = .ok (.iload 4, 2) := by decide +kernel
theorem dX5_sea_38 : decode cX5_sea 38 = .ok (.i2l, 1) := by decide +kernel
theorem dX5_sea_39 : decode cX5_sea 39 = .ok (.invokevirtual 125, 3) := by decide +kernel
theorem dX5_sea_42 : decode cX5_sea 42 = .ok (.istore 5, 2) := by decide +kernel
theorem dX5_sea_44 : decode cX5_sea 44 = .ok (.iload 5, 2) := by decide +kernel
theorem dX5_sea_46 : decode cX5_sea 46 = .ok (.ifCond .ge 6, 3) := by decide +kernel
theorem dX5_sea_49 : decode cX5_sea 49 = .ok (.iload 5, 2) := by decide +kernel
theorem dX5_sea_51 : decode cX5_sea 51 = .ok (.ireturn, 1) := by decide +kernel
theorem dX5_sea_52 : decode cX5_sea 52 = .ok (.aload_n 0, 1) := by decide +kernel
theorem dX5_sea_53 : decode cX5_sea 53 = .ok (.bipush 60, 2) := by decide +kernel
theorem dX5_sea_55 : decode cX5_sea 55 = .ok (.iload_n 1, 1) := by decide +kernel
theorem dX5_sea_56 : decode cX5_sea 56 = .ok (.imul, 1) := by decide +kernel
theorem dX5_sea_57 : decode cX5_sea 57 = .ok (.iload_n 3, 1) := by decide +kernel
theorem dX5_sea_58 : decode cX5_sea 58 = .ok (.iadd, 1) := by decide +kernel
theorem dX5_sea_59 : decode cX5_sea 59 = .ok (.iload 4, 2) := by decide +kernel
theorem dX5_sea_61 : decode cX5_sea 61 = .ok (.invokevirtual 129, 3) := by decide +kernel
theorem dX5_sea_64 : decode cX5_sea 64 = .ok (.ifCond .ne 15, 3) := by decide +kernel
theorem dX5_sea_67 : decode cX5_sea 67 = .ok (.aload_n 0, 1) := by decide +kernel
theorem dX5_sea_68 : decode cX5_sea 68 = .ok (.bipush (-100), 2) := by decide +kernel
theorem dX5_sea_70 : decode cX5_sea 70 = .ok (.aload_n 0, 1) := by decide +kernel
theorem dX5_sea_71 : decode cX5_sea 71 = .ok (.getfield 75, 3) := by decide +kernel
theorem dX5_sea_74 : decode cX5_sea 74 = .ok (.isub, 1) := by decide +kernel
theorem dX5_sea_75 : decode cX5_sea 75 = .ok (.invokevirtual 120, 3) := by decide +kernel
theorem dX5_sea_78 : decode cX5_sea 78 = .ok (.ireturn, 1) := by decide +kernel
theorem dX5_sea_79 : decode cX5_sea 79 = .ok (.aload_n 0, 1) := by decide +kernel
theorem dX5_sea_80 : decode cX5_sea 80 = .ok (.aload_n 0, 1) := by decide +kernel
theorem dX5_sea_81 : decode cX5_sea 81 = .ok (.getfield 86, 3) := by decide +kernel
theorem dX5_sea_84 : decode cX5_sea 84 = .ok (.putfield 69, 3) := by decide +kernel
theorem dX5_sea_87 : decode cX5_sea 87 = .ok (.aload_n 0, 1) := by decide +kernel
theorem dX5_sea_88 : decode cX5_sea 88 = .ok (.aload_n 0, 1) := by decide +kernel
theorem dX5_sea_89 : decode cX5_sea 89 = .ok (.getfield 89, 3) := by decide +kernel
theorem dX5_sea_92 : decode cX5_sea 92 = .ok (.putfield 72, 3) := by decide +kernel
theorem dX5_sea_95 : decode cX5_sea 95 = .ok (.aload_n 0, 1) := by decide +kernel
theorem dX5_sea_96 : decode cX5_sea 96 = .ok (.aload_n 0, 1) := by decide +kernel
theorem dX5_sea_97 : decode cX5_sea 97 = .ok (.getfield 92, 3) := by decide +kernel
theorem dX5_sea_100 : decode cX5_sea 100 = .ok (.putfield 62, 3) := by decide +kernel
theorem dX5_sea_103 : decode cX5_sea 103 = .ok (.aload_n 0, 1) := by decide +kernel
theorem dX5_sea_104 : decode cX5_sea 104 = .ok (.aload_n 0, 1) := by decide +kernel
theorem dX5_sea_105 : decode cX5_sea 105 = .ok (.getfield 102, 3) := by decide +kernel
theorem dX5_sea_108 : decode cX5_sea 108 = .ok (.putfield 132, 3) := by decide +kernel
theorem dX5_sea_111 : decode cX5_sea 111 = .ok (.aload_n 0, 1) := by decide +kernel
theorem dX5_sea_112 : decode cX5_sea 112 = .ok (.aload_n 0, 1) := by decide +kernel
theorem dX5_sea_113 : decode cX5_sea 113 = .ok (.getfield 105, 3) := by decide +kernel
theorem dX5_sea_116 : decode cX5_sea 116 = .ok (.putfield 135, 3) := by decide +kernel
theorem dX5_sea_119 : decode cX5_sea 119 = .ok (.iconst 0, 1) := by decide +kernel
theorem dX5_sea_120 : decode cX5_sea 120 = .ok (.istore 6, 2) := by decide +kernel
theorem dX5_sea_122 : decode cX5_sea 122 = .ok (.iload 6, 2) := by decide +kernel
theorem dX5_sea_124 : decode cX5_sea 124 = .ok (.aload_n 0, 1) := by decide +kernel
theorem dX5_sea_125 : decode cX5_sea 125 = .ok (.getfield 69, 3) := by decide +kernel
theorem dX5_sea_128 : decode cX5_sea 128 = .ok (.aload_n 0, 1) := by decide +kernel
theorem dX5_sea_129 : decode cX5_sea 129 = .ok (.getfield 72, 3) := by decide +kernel
theorem dX5_sea_132 : decode cX5_sea 132 = .ok (.imul, 1) := by decide +kernel
theorem dX5_sea_133 : decode cX5_sea 133 = .ok (.if_icmp .ge 23, 3) := by decide +kernel
theorem dX5_sea_136 : decode cX5_sea 136 = .ok (.aload_n 0, 1) := by decide +kernel
theorem dX5_sea_137 : decode cX5_sea 137 = .ok (.getfield 7, 3) := by decide +kernel
theorem dX5_sea_140 : decode cX5_sea 140 = .ok (.iload 6, 2) := by decide +kernel
theorem dX5_sea_142 : decode cX5_sea 142 = .ok (.aload_n 0, 1) := by decide +kernel
theorem dX5_sea_143 : decode cX5_sea 143 = .ok (.getfield 19, 3) := by decide +kernel
theorem dX5_sea_146 : decode cX5_sea 146 = .ok (.iload 6, 2) := by decide +kernel
theorem dX5_sea_148 : decode cX5_sea 148 = .ok (.iaload, 1) := by decide +kernel
theorem dX5_sea_149 : decode cX5_sea 149 = .ok (.iastore, 1) := by decide +kernel
theorem dX5_sea_150 : decode cX5_sea 150 = .ok (.iinc 6 1, 3) := by decide +kernel
theorem dX5_sea_153 : decode cX5_sea 153 = .ok (.goto (-31), 3) := by decide +kernel
theorem dX5_sea_156 : decode cX5_sea 156 = .ok (.iconst 0, 1) := by decide +kernel
theorem dX5_sea_157 : decode cX5_sea 157 = .ok (.istore 6, 2) := by decide +kernel
theorem dX5_sea_159 : decode cX5_sea 159 = .ok (.iload 6, 2) := by decide +kernel
theorem dX5_sea_161 : decode cX5_sea 161 = .ok (.aload_n 0, 1) := by decide +kernel
theorem dX5_sea_162 : decode cX5_sea 162 = .ok (.getfield 62, 3) := by decide +kernel
theorem dX5_sea_165 : decode cX5_sea 165 = .ok (.if_icmp .ge 37, 3) := by decide +kernel
theorem dX5_sea_168 : decode cX5_sea 168 = .ok (.aload_n 0, 1) := by decide +kernel
theorem dX5_sea_169 : decode cX5_sea 169 = .ok (.getfield 13, 3) := by decide +kernel
theorem dX5_sea_172 : decode cX5_sea 172 = .ok (.iload 6, 2) := by decide +kernel
theorem dX5_sea_174 : decode cX5_sea 174 = .ok (.aload_n 0, 1) := by decide +kernel
theorem dX5_sea_175 : decode cX5_sea 175 = .ok (.getfield 22, 3) := by decide +kernel
theorem dX5_sea_178 : decode cX5_sea 178 = .ok (.iload 6, 2) := by decide +kernel
theorem dX5_sea_180 : decode cX5_sea 180 = .ok (.iaload, 1) := by decide +kernel
theorem dX5_sea_181 : decode cX5_sea 181 = .ok (.iastore, 1) := by decide +kernel
theorem dX5_sea_182 : decode cX5_sea 182 = .ok (.aload_n 0, 1) := by decide +kernel
theorem dX5_sea_183 : decode cX5_sea 183 = .ok (.getfield 16, 3) := by decide +kernel
theorem dX5_sea_186 : decode cX5_sea 186 = .ok (.iload 6, 2) := by decide +kernel
theorem dX5_sea_188 : decode cX5_sea 188 = .ok (.aload_n 0, 1) := by decide +kernel
theorem dX5_sea_189 : decode cX5_sea 189 = .ok (.getfield 25, 3) := by decide +kernel
theorem dX5_sea_192 : decode cX5_sea 192 = .ok (.iload 6, 2) := by decide +kernel
theorem dX5_sea_194 : decode cX5_sea 194 = .ok (.iaload, 1) := by decide +kernel
theorem dX5_sea_195 : decode cX5_sea 195 = .ok (.iastore, 1) := by decide +kernel
theorem dX5_sea_196 : decode cX5_sea 196 = .ok (.iinc 6 1, 3) := by decide +kernel
theorem dX5_sea_199 : decode cX5_sea 199 = .ok (.goto (-40), 3) := by decide +kernel
theorem dX5_sea_202 : decode cX5_sea 202 = .ok (.aload_n 0, 1) := by decide +kernel
theorem dX5_sea_203 : decode cX5_sea 203 = .ok (.iconst 0, 1) := by decide +kernel
theorem dX5_sea_204 : decode cX5_sea 204 = .ok (.putfield 138, 3) := by decide +kernel
theorem dX5_sea_207 : decode cX5_sea 207 = .ok (.aload_n 0, 1) := by decide +kernel
theorem dX5_sea_208 : decode cX5_sea 208 = .ok (.iconst 0, 1) := by decide +kernel
theorem dX5_sea_209 : decode cX5_sea 209 = .ok (.putfield 141, 3) := by decide +kernel
theorem dX5_sea_212 : decode cX5_sea 212 = .ok (.aload_n 0, 1) := by decide +kernel
theorem dX5_sea_213 : decode cX5_sea 213 = .ok (.aload_n 0, 1) := by decide +kernel
theorem dX5_sea_214 : decode cX5_sea 214 = .ok (.invokevirtual 144, 3) := by decide +kernel
theorem dX5_sea_217 : decode cX5_sea 217 = .ok (.putfield 147, 3) := by decide +kernel
theorem dX5_sea_220 : decode cX5_sea 220 = .ok (.aload_n 0, 1) := by decide +kernel
theorem dX5_sea_221 : decode cX5_sea 221 = .ok (.iconst 0, 1) := by decide +kernel
theorem dX5_sea_222 : decode cX5_sea 222 = .ok (.putfield 151, 3) := by decide +kernel
theorem dX5_sea_225 : decode cX5_sea 225 = .ok (.aload_n 0, 1) := by decide +kernel
theorem dX5_sea_226 : decode cX5_sea 226 = .ok (.aload_n 0, 1) := by decide +kernel
theorem dX5_sea_227 : decode cX5_sea 227 = .ok (.getfield 62, 3) := by decide +kernel
theorem dX5_sea_230 : decode cX5_sea 230 = .ok (.invokevirtual 120, 3) := by decide +kernel
theorem dX5_sea_233 : decode cX5_sea 233 = .ok (.ireturn, 1) := by decide +kernel
set_option maxRecDepth 20000 in
theorem tkX5_sea : ∀ q ∈ tbX5_sea, xOk (Zm false yX5_sea.name) RX5 cX5_sea 7 (some .int) pT pY q :=
  fa_c (ok_p (xg_load _ _ _) (x_iload_n dX5_sea_0 rfl)) <|
  fa_c (ok_c pT_179 pY_179 (x_callS (n := 1) rfl kw785 kw786 kw63 kw787 (by decide +kernel) dX5_sea_1)) <|
  fa_c (ok_p (xg_if _ _ _) (x_if_eq dX5_sea_4 (by decide))) <|
  fa_c (ok_p (xg_load _ _ _) (x_aload_n dX5_sea_7 rfl)) <|
  fa_c (ok_p (xg_st _ _) (x_iconst dX5_sea_8 rfl)) <|
  fa_c (ok_c pT_127 pY_127 (x_callV (n := 1) (C := RX5) (T := TX5) (N := 34) rfl rfl kw792 kw794 kw26 kw63 kw795 (by decide +kernel) dX5_sea_9)) <|
  fa_c (ok_r ⟨rfl, dX5_sea_12⟩) <|
  fa_c (ok_p (xg_load _ _ _) (x_iload_n dX5_sea_13 rfl)) <|
  fa_c (ok_p (xg_st _ _) (x_i2l dX5_sea_14)) <|
  fa_c (ok_p (xg_st _ _) (x_lconst dX5_sea_15 rfl)) <|
  fa_c (ok_p (xg_st _ _) (x_ldc2 dX5_sea_16 kw796)) <|
  fa_c (ok_c pT_122 pY_122 (x_callS (n := 3) rfl kw789 kw790 kw63 kw791 (by decide +kernel) dX5_sea_19)) <|
  fa_c (ok_p (xg_if _ _ _) (x_if_ne dX5_sea_22 (by decide))) <|
  fa_c (ok_p (xg_load _ _ _) (x_aload_n dX5_sea_25 rfl)) <|
  fa_c (ok_p (xg_st _ _) (x_bipush dX5_sea_26 rfl)) <|
  fa_c (ok_c pT_127 pY_127 (x_callV (n := 1) (C := RX5) (T := TX5) (N := 34) rfl rfl kw792 kw794 kw26 kw63 kw795 (by decide +kernel) dX5_sea_28)) <|
  fa_c (ok_r ⟨rfl, dX5_sea_31⟩) <|
  fa_c (ok_p (xg_load _ _ _) (x_aload_n dX5_sea_32 rfl)) <|
  fa_c (ok_p (xg_load _ _ _) (x_iload_n dX5_sea_33 rfl)) <|
  fa_c (ok_p (xg_load _ _ _) (x_iload_n dX5_sea_34 rfl)) <|
  fa_c (ok_p (xg_load _ _ _) (x_iload_n dX5_sea_35 rfl)) <|
  fa_c (ok_p (xg_load _ _ _) (x_iload dX5_sea_36)) <|
  fa_c (ok_p (xg_st _ _) (x_i2l dX5_sea_38)) <|
  fa_c (ok_c pT_137 pY_137 (x_callV (n := 4) (C := RX5) (T := TX5) (N := 34) rfl rfl kw797 kw799 kw27 kw63 kw800 (by decide +kernel) dX5_sea_39)) <|
  fa_c (ok_p (xg_store _ _ _) (x_istore dX5_sea_42)) <|
  fa_c (ok_p (xg_load _ _ _) (x_iload dX5_sea_44)) <|
  fa_c (ok_p (xg_if _ _ _) (x_if_ge dX5_sea_46 (by decide))) <|
  fa_c (ok_p (xg_load _ _ _) (x_iload dX5_sea_49)) <|
  fa_c (ok_r ⟨rfl, dX5_sea_51⟩) <|
  fa_c (ok_p (xg_load _ _ _) (x_aload_n dX5_sea_52 rfl)) <|
  fa_c (ok_p (xg_st _ _) (x_bipush dX5_sea_53 rfl)) <|
  fa_c (ok_p (xg_load _ _ _) (x_iload_n dX5_sea_55 rfl)) <|
  fa_c (ok_p (xg_st _ _) (x_imul dX5_sea_56)) <|
  fa_c (ok_p (xg_load _ _ _) (x_iload_n dX5_sea_57 rfl)) <|
  fa_c (ok_p (xg_st _ _) (x_iadd dX5_sea_58)) <|
  fa_c (ok_p (xg_load _ _ _) (x_iload dX5_sea_59)) <|
  fa_c (ok_c pT_136 pY_136 (x_callV (n := 2) (C := RX5) (T := TX5) (N := 34) rfl rfl kw808 kw810 kw29 kw63 kw811 (by decide +kernel) dX5_sea_61)) <|
  fa_c (ok_p (xg_if _ _ _) (x_if_ne dX5_sea_64 (by decide))) <|
  fa_c (ok_p (xg_load _ _ _) (x_aload_n dX5_sea_67 rfl)) <|
  fa_c (ok_p (xg_st _ _) (x_bipush dX5_sea_68 rfl)) <|
  fa_c (ok_p (xg_load _ _ _) (x_aload_n dX5_sea_70 rfl)) <|
  fa_c (ok_p (xg_getf _ _ _) (x_getf (C := RX5) (T := TX5) (N := 34) rfl (by decide) inX5 kw690 dX5_sea_71)) <|
  fa_c (ok_p (xg_st _ _) (x_isub dX5_sea_74)) <|
  fa_c (ok_c pT_127 pY_127 (x_callV (n := 1) (C := RX5) (T := TX5) (N := 34) rfl rfl kw792 kw794 kw26 kw63 kw795 (by decide +kernel) dX5_sea_75)) <|
  fa_c (ok_r ⟨rfl, dX5_sea_78⟩) <|
  fa_c (ok_p (xg_load _ _ _) (x_aload_n dX5_sea_79 rfl)) <|
  fa_c (ok_p (xg_load _ _ _) (x_aload_n dX5_sea_80 rfl)) <|
  fa_c (ok_p (xg_getf _ _ _) (x_getf (C := RX5) (T := TX5) (N := 34) rfl (by decide) inX5 kw691 dX5_sea_81)) <|
  fa_c (ok_p (xg_putf _ _ _ _) (x_putfof (C := RX5) (T := TX5) (N := 34) tyX5 tyX5_ok nmX5 rfl (by decide) inX5 kw679 dX5_sea_84 (tyX5_ok 1 (by decide)) (fun _ _ _ _ _ _ => Or.inl rfl))) <|
  fa_c (ok_p (xg_load _ _ _) (x_aload_n dX5_sea_87 rfl)) <|
  fa_c (ok_p (xg_load _ _ _) (x_aload_n dX5_sea_88 rfl)) <|
  fa_c (ok_p (xg_getf _ _ _) (x_getf (C := RX5) (T := TX5) (N := 34) rfl (by decide) inX5 kw692 dX5_sea_89)) <|
  fa_c (ok_p (xg_putf _ _ _ _) (x_putfof (C := RX5) (T := TX5) (N := 34) tyX5 tyX5_ok nmX5 rfl (by decide) inX5 kw680 dX5_sea_92 (tyX5_ok 2 (by decide)) (fun _ _ _ _ _ _ => Or.inl rfl))) <|
  fa_c (ok_p (xg_load _ _ _) (x_aload_n dX5_sea_95 rfl)) <|
  fa_c (ok_p (xg_load _ _ _) (x_aload_n dX5_sea_96 rfl)) <|
  fa_c (ok_p (xg_getf _ _ _) (x_getf (C := RX5) (T := TX5) (N := 34) rfl (by decide) inX5 kw693 dX5_sea_97)) <|
  fa_c (ok_p (xg_putf _ _ _ _) (x_putfof (C := RX5) (T := TX5) (N := 34) tyX5 tyX5_ok nmX5 rfl (by decide) inX5 kw681 dX5_sea_100 (tyX5_ok 3 (by decide)) (fun _ _ _ _ _ _ => Or.inl rfl))) <|
  fa_c (ok_p (xg_load _ _ _) (x_aload_n dX5_sea_103 rfl)) <|
  fa_c (ok_p (xg_load _ _ _) (x_aload_n dX5_sea_104 rfl)) <|
  fa_c (ok_p (xg_getf _ _ _) (x_getf (C := RX5) (T := TX5) (N := 34) rfl (by decide) inX5 kw694 dX5_sea_105)) <|
  fa_c (ok_p (xg_putf _ _ _ _) (x_putfof (C := RX5) (T := TX5) (N := 34) tyX5 tyX5_ok nmX5 rfl (by decide) inX5 kw682 dX5_sea_108 (tyX5_ok 4 (by decide)) (fun _ _ _ _ _ _ => Or.inl rfl))) <|
  fa_c (ok_p (xg_load _ _ _) (x_aload_n dX5_sea_111 rfl)) <|
  fa_c (ok_p (xg_load _ _ _) (x_aload_n dX5_sea_112 rfl)) <|
  fa_c (ok_p (xg_getf _ _ _) (x_getf (C := RX5) (T := TX5) (N := 34) rfl (by decide) inX5 kw695 dX5_sea_113)) <|
  fa_c (ok_p (xg_putf _ _ _ _) (x_putfof (C := RX5) (T := TX5) (N := 34) tyX5 tyX5_ok nmX5 rfl (by decide) inX5 kw683 dX5_sea_116 (tyX5_ok 5 (by decide)) (fun _ _ _ _ _ _ => Or.inl rfl))) <|
  fa_c (ok_p (xg_st _ _) (x_iconst dX5_sea_119 rfl)) <|
  fa_c (ok_p (xg_store _ _ _) (x_istore dX5_sea_120)) <|
  fa_c (ok_p (xg_clr _ (xg_load _ _ _)) (x_clr _ (x_iload dX5_sea_122))) <|
  fa_c (ok_p (xg_load _ _ _) (x_aload_n dX5_sea_124 rfl)) <|
  fa_c (ok_p (xg_getf _ _ _) (x_getf (C := RX5) (T := TX5) (N := 34) rfl (by decide) inX5 kw679 dX5_sea_125)) <|
  fa_c (ok_p (xg_load _ _ _) (x_aload_n dX5_sea_128 rfl)) <|
  fa_c (ok_p (xg_getf _ _ _) (x_getf (C := RX5) (T := TX5) (N := 34) rfl (by decide) inX5 kw680 dX5_sea_129)) <|
  fa_c (ok_p (xg_st _ _) (x_imul dX5_sea_132)) <|
  fa_c (ok_p (xg_icmp _ _ _) (x_icmp_ge dX5_sea_133 (by decide))) <|
  fa_c (ok_p (xg_load _ _ _) (x_aload_n dX5_sea_136 rfl)) <|
  fa_c (ok_p (xg_getf _ _ _) (x_getf (C := RX5) (T := TX5) (N := 34) rfl (by decide) inX5 kw687 dX5_sea_137)) <|
  fa_c (ok_p (xg_load _ _ _) (x_iload dX5_sea_140)) <|
  fa_c (ok_p (xg_load _ _ _) (x_aload_n dX5_sea_142 rfl)) <|
  fa_c (ok_p (xg_getf _ _ _) (x_getf (C := RX5) (T := TX5) (N := 34) rfl (by decide) inX5 kw696 dX5_sea_143)) <|
  fa_c (ok_p (xg_load _ _ _) (x_iload dX5_sea_146)) <|
  fa_c (ok_p (xg_iald _) (x_iald dX5_sea_148)) <|
  fa_c (ok_p (xg_iast _) (x_iast dX5_sea_149)) <|
  fa_c (ok_p (xg_iinc _ _ _) (x_iinc dX5_sea_150 rfl)) <|
  fa_c (ok_p (xg_st _ _) (x_goto dX5_sea_153 (by decide))) <|
  fa_c (ok_p (xg_st _ _) (x_iconst dX5_sea_156 rfl)) <|
  fa_c (ok_p (xg_store _ _ _) (x_istore dX5_sea_157)) <|
  fa_c (ok_p (xg_clr _ (xg_load _ _ _)) (x_clr _ (x_iload dX5_sea_159))) <|
  fa_c (ok_p (xg_load _ _ _) (x_aload_n dX5_sea_161 rfl)) <|
  fa_c (ok_p (xg_getf _ _ _) (x_getf (C := RX5) (T := TX5) (N := 34) rfl (by decide) inX5 kw681 dX5_sea_162)) <|
  fa_c (ok_p (xg_icmp _ _ _) (x_icmp_ge dX5_sea_165 (by decide))) <|
  fa_c (ok_p (xg_load _ _ _) (x_aload_n dX5_sea_168 rfl)) <|
  fa_c (ok_p (xg_getf _ _ _) (x_getf (C := RX5) (T := TX5) (N := 34) rfl (by decide) inX5 kw688 dX5_sea_169)) <|
  fa_c (ok_p (xg_load _ _ _) (x_iload dX5_sea_172)) <|
  fa_c (ok_p (xg_load _ _ _) (x_aload_n dX5_sea_174 rfl)) <|
  fa_c (ok_p (xg_getf _ _ _) (x_getf (C := RX5) (T := TX5) (N := 34) rfl (by decide) inX5 kw697 dX5_sea_175)) <|
  fa_c (ok_p (xg_load _ _ _) (x_iload dX5_sea_178)) <|
  fa_c (ok_p (xg_iald _) (x_iald dX5_sea_180)) <|
  fa_c (ok_p (xg_iast _) (x_iast dX5_sea_181)) <|
  fa_c (ok_p (xg_load _ _ _) (x_aload_n dX5_sea_182 rfl)) <|
  fa_c (ok_p (xg_getf _ _ _) (x_getf (C := RX5) (T := TX5) (N := 34) rfl (by decide) inX5 kw689 dX5_sea_183)) <|
  fa_c (ok_p (xg_load _ _ _) (x_iload dX5_sea_186)) <|
  fa_c (ok_p (xg_load _ _ _) (x_aload_n dX5_sea_188 rfl)) <|
  fa_c (ok_p (xg_getf _ _ _) (x_getf (C := RX5) (T := TX5) (N := 34) rfl (by decide) inX5 kw698 dX5_sea_189)) <|
  fa_c (ok_p (xg_load _ _ _) (x_iload dX5_sea_192)) <|
  fa_c (ok_p (xg_iald _) (x_iald dX5_sea_194)) <|
  fa_c (ok_p (xg_iast _) (x_iast dX5_sea_195)) <|
  fa_c (ok_p (xg_iinc _ _ _) (x_iinc dX5_sea_196 rfl)) <|
  fa_c (ok_p (xg_st _ _) (x_goto dX5_sea_199 (by decide))) <|
  fa_c (ok_p (xg_load _ _ _) (x_aload_n dX5_sea_202 rfl)) <|
  fa_c (ok_p (xg_st _ _) (x_iconst dX5_sea_203 rfl)) <|
  fa_c (ok_p (xg_putf _ _ _ _) (x_putfof (C := RX5) (T := TX5) (N := 34) tyX5 tyX5_ok nmX5 rfl (by decide) inX5 kw684 dX5_sea_204 (tyX5_ok 6 (by decide)) (fun _ _ _ _ _ _ => Or.inl rfl))) <|
  fa_c (ok_p (xg_load _ _ _) (x_aload_n dX5_sea_207 rfl)) <|
  fa_c (ok_p (xg_st _ _) (x_iconst dX5_sea_208 rfl)) <|
  fa_c (ok_p (xg_putf _ _ _ _) (x_putfof (C := RX5) (T := TX5) (N := 34) tyX5 tyX5_ok nmX5 rfl (by decide) inX5 kw685 dX5_sea_209 (tyX5_ok 7 (by decide)) (fun _ _ _ _ _ _ => Or.inl rfl))) <|
  fa_c (ok_p (xg_load _ _ _) (x_aload_n dX5_sea_212 rfl)) <|
  fa_c (ok_p (xg_load _ _ _) (x_aload_n dX5_sea_213 rfl)) <|
  fa_c (ok_c pT_141 pY_141 (x_callV (n := 0) (C := RX5) (T := TX5) (N := 34) rfl rfl kw828 kw830 kw34 kw63 kw831 (by decide +kernel) dX5_sea_214)) <|
  fa_c (ok_p (xg_putf _ _ _ _) (x_putfof (C := RX5) (T := TX5) (N := 34) tyX5 tyX5_ok nmX5 rfl (by decide) inX5 kw686 dX5_sea_217 (tyX5_ok 8 (by decide)) (fun _ _ _ _ _ _ => Or.inl rfl))) <|
  fa_c (ok_p (xg_load _ _ _) (x_aload_n dX5_sea_220 rfl)) <|
  fa_c (ok_p (xg_st _ _) (x_iconst dX5_sea_221 rfl)) <|
  fa_c (ok_p (xg_putf _ _ _ _) (x_putfof (C := RX5) (T := TX5) (N := 34) tyX5 tyX5_ok nmX5 rfl (by decide) inX5 kw703 dX5_sea_222 (tyX5_ok 25 (by decide)) (fun _ _ _ _ _ _ => Or.inl rfl))) <|
  fa_c (ok_p (xg_load _ _ _) (x_aload_n dX5_sea_225 rfl)) <|
  fa_c (ok_p (xg_load _ _ _) (x_aload_n dX5_sea_226 rfl)) <|
  fa_c (ok_p (xg_getf _ _ _) (x_getf (C := RX5) (T := TX5) (N := 34) rfl (by decide) inX5 kw681 dX5_sea_227)) <|
  fa_c (ok_c pT_127 pY_127 (x_callV (n := 1) (C := RX5) (T := TX5) (N := 34) rfl rfl kw792 kw794 kw26 kw63 kw795 (by decide +kernel) dX5_sea_230)) <|
  fa_c (ok_r ⟨rfl, dX5_sea_233⟩) <|
  fa_n
theorem dX5_placeOf_0 : decode cX5_placeOf 0 = .ok (.aload_n 0, 1) := by decide +kernel
theorem dX5_placeOf_1 : decode cX5_placeOf 1 = .ok (.getfield 69, 3) := by decide +kernel
theorem dX5_placeOf_4 : decode cX5_placeOf 4 = .ok (.aload_n 0, 1) := by decide +kernel
theorem dX5_placeOf_5 : decode cX5_placeOf 5 = .ok (.getfield 135, 3) := by decide +kernel
theorem dX5_placeOf_8 : decode cX5_placeOf 8 = .ok (.imul, 1) := by decide +kernel
theorem dX5_placeOf_9 : decode cX5_placeOf 9 = .ok (.aload_n 0, 1) := by decide +kernel
theorem dX5_placeOf_10 : decode cX5_placeOf 10 = .ok (.getfield 132, 3) := by decide +kernel
theorem dX5_placeOf_13 : decode cX5_placeOf 13 = .ok (.iadd, 1) := by decide +kernel
theorem dX5_placeOf_14 : decode cX5_placeOf 14 = .ok (.iload_n 1, 1) := by decide +kernel
theorem dX5_placeOf_15 : decode cX5_placeOf 15 = .ok (.iadd, 1) := by decide +kernel
theorem dX5_placeOf_16 : decode cX5_placeOf 16 = .ok (.ireturn, 1) := by decide +kernel
set_option maxRecDepth 20000 in
theorem tkX5_placeOf : ∀ q ∈ tbX5_placeOf, xOk (Zm false yX5_placeOf.name) RX5 cX5_placeOf 2 (some .int) pT pY q :=
  fa_c (ok_p (xg_load _ _ _) (x_aload_n dX5_placeOf_0 rfl)) <|
  fa_c (ok_p (xg_getf _ _ _) (x_getf (C := RX5) (T := TX5) (N := 34) rfl (by decide) inX5 kw679 dX5_placeOf_1)) <|
  fa_c (ok_p (xg_load _ _ _) (x_aload_n dX5_placeOf_4 rfl)) <|
  fa_c (ok_p (xg_getf _ _ _) (x_getf (C := RX5) (T := TX5) (N := 34) rfl (by decide) inX5 kw683 dX5_placeOf_5)) <|
  fa_c (ok_p (xg_st _ _) (x_imul dX5_placeOf_8)) <|
  fa_c (ok_p (xg_load _ _ _) (x_aload_n dX5_placeOf_9 rfl)) <|
  fa_c (ok_p (xg_getf _ _ _) (x_getf (C := RX5) (T := TX5) (N := 34) rfl (by decide) inX5 kw682 dX5_placeOf_10)) <|
  fa_c (ok_p (xg_st _ _) (x_iadd dX5_placeOf_13)) <|
  fa_c (ok_p (xg_load _ _ _) (x_iload_n dX5_placeOf_14 rfl)) <|
  fa_c (ok_p (xg_st _ _) (x_iadd dX5_placeOf_15)) <|
  fa_c (ok_r ⟨rfl, dX5_placeOf_16⟩) <|
  fa_n
theorem dX5_tells_0 : decode cX5_tells 0 = .ok (.iload_n 2, 1) := by decide +kernel
theorem dX5_tells_1 : decode cX5_tells 1 = .ok (.aload_n 0, 1) := by decide +kernel
theorem dX5_tells_2 : decode cX5_tells 2 = .ok (.getfield 16, 3) := by decide +kernel
theorem dX5_tells_5 : decode cX5_tells 5 = .ok (.iload_n 1, 1) := by decide +kernel
theorem dX5_tells_6 : decode cX5_tells 6 = .ok (.iaload, 1) := by decide +kernel
theorem dX5_tells_7 : decode cX5_tells 7 = .ok (.if_icmp .le 14, 3) := by decide +kernel
theorem dX5_tells_10 : decode cX5_tells 10 = .ok (.iload_n 2, 1) := by decide +kernel
theorem dX5_tells_11 : decode cX5_tells 11 = .ok (.aload_n 0, 1) := by decide +kernel
theorem dX5_tells_12 : decode cX5_tells 12 = .ok (.getfield 16, 3) := by decide +kernel
theorem dX5_tells_15 : decode cX5_tells 15 = .ok (.iload_n 1, 1) := by decide +kernel
theorem dX5_tells_16 : decode cX5_tells 16 = .ok (.iaload, 1) := by decide +kernel
theorem dX5_tells_17 : decode cX5_tells 17 = .ok (.isub, 1) := by decide +kernel
theorem dX5_tells_18 : decode cX5_tells 18 = .ok (.goto 4, 3) := by decide +kernel
theorem dX5_tells_21 : decode cX5_tells 21 = .ok (.iconst 0, 1) := by decide +kernel
theorem dX5_tells_22 : decode cX5_tells 22 = .ok (.istore_n 3, 1) := by decide +kernel
theorem dX5_tells_23 : decode cX5_tells 23 = .ok (.aload_n 0, 1) := by decide +kernel
theorem dX5_tells_24 : decode cX5_tells 24 = .ok (.getfield 13, 3) := by decide +kernel
theorem dX5_tells_27 : decode cX5_tells 27 = .ok (.iload_n 1, 1) := by decide +kernel
theorem dX5_tells_28 : decode cX5_tells 28 = .ok (.iaload, 1) := by decide +kernel
theorem dX5_tells_29 : decode cX5_tells 29 = .ok (.ifCond .ne 7, 3) := by decide +kernel
theorem dX5_tells_32 : decode cX5_tells 32 = .ok (.iload_n 3, 1) := by decide +kernel
theorem dX5_tells_33 : decode cX5_tells 33 = .ok (.goto 24, 3) := by decide +kernel
theorem dX5_tells_36 : decode cX5_tells 36 = .ok (.aload_n 0, 1) := by decide +kernel
theorem dX5_tells_37 : decode cX5_tells 37 = .ok (.getfield 13, 3) := by decide +kernel
theorem dX5_tells_40 : decode cX5_tells 40 = .ok (.iload_n 1, 1) := by decide +kernel
theorem dX5_tells_41 : decode cX5_tells 41 = .ok (.iaload, 1) := by decide +kernel
theorem dX5_tells_42 : decode cX5_tells 42 = .ok (.iconst 1, 1) := by decide +kernel
theorem dX5_tells_43 : decode cX5_tells 43 = .ok (.if_icmp .ne 9, 3) := by decide +kernel
theorem dX5_tells_46 : decode cX5_tells 46 = .ok (.iload_n 3, 1) := by decide +kernel
theorem dX5_tells_47 : decode cX5_tells 47 = .ok (.iconst 1, 1) := by decide +kernel
theorem dX5_tells_48 : decode cX5_tells 48 = .ok (.iadd, 1) := by decide +kernel
theorem dX5_tells_49 : decode cX5_tells 49 = .ok (.goto 8, 3) := by decide +kernel
theorem dX5_tells_52 : decode cX5_tells 52 = .ok (.iconst 2, 1) := by decide +kernel
theorem dX5_tells_53 : decode cX5_tells 53 = .ok (.iload_n 3, 1) := by decide +kernel
theorem dX5_tells_54 : decode cX5_tells 54 = .ok (.imul, 1) := by decide +kernel
theorem dX5_tells_55 : decode cX5_tells 55 = .ok (.iconst 2, 1) := by decide +kernel
theorem dX5_tells_56 : decode cX5_tells 56 = .ok (.iadd, 1) := by decide +kernel
theorem dX5_tells_57 : decode cX5_tells 57 = .ok (.ireturn, 1) := by decide +kernel
set_option maxRecDepth 20000 in
theorem tkX5_tells : ∀ q ∈ tbX5_tells, xOk (Zm false yX5_tells.name) RX5 cX5_tells 4 (some .int) pT pY q :=
  fa_c (ok_p (xg_load _ _ _) (x_iload_n dX5_tells_0 rfl)) <|
  fa_c (ok_p (xg_load _ _ _) (x_aload_n dX5_tells_1 rfl)) <|
  fa_c (ok_p (xg_getf _ _ _) (x_getf (C := RX5) (T := TX5) (N := 34) rfl (by decide) inX5 kw689 dX5_tells_2)) <|
  fa_c (ok_p (xg_load _ _ _) (x_iload_n dX5_tells_5 rfl)) <|
  fa_c (ok_p (xg_iald _) (x_iald dX5_tells_6)) <|
  fa_c (ok_p (xg_icmp _ _ _) (x_icmp_le dX5_tells_7 (by decide))) <|
  fa_c (ok_p (xg_load _ _ _) (x_iload_n dX5_tells_10 rfl)) <|
  fa_c (ok_p (xg_load _ _ _) (x_aload_n dX5_tells_11 rfl)) <|
  fa_c (ok_p (xg_getf _ _ _) (x_getf (C := RX5) (T := TX5) (N := 34) rfl (by decide) inX5 kw689 dX5_tells_12)) <|
  fa_c (ok_p (xg_load _ _ _) (x_iload_n dX5_tells_15 rfl)) <|
  fa_c (ok_p (xg_iald _) (x_iald dX5_tells_16)) <|
  fa_c (ok_p (xg_st _ _) (x_isub dX5_tells_17)) <|
  fa_c (ok_p (xg_st _ _) (x_goto dX5_tells_18 (by decide))) <|
  fa_c (ok_p (xg_st _ _) (x_iconst dX5_tells_21 rfl)) <|
  fa_c (ok_p (xg_store _ _ _) (x_istore_n dX5_tells_22 rfl)) <|
  fa_c (ok_p (xg_load _ _ _) (x_aload_n dX5_tells_23 rfl)) <|
  fa_c (ok_p (xg_getf _ _ _) (x_getf (C := RX5) (T := TX5) (N := 34) rfl (by decide) inX5 kw688 dX5_tells_24)) <|
  fa_c (ok_p (xg_load _ _ _) (x_iload_n dX5_tells_27 rfl)) <|
  fa_c (ok_p (xg_iald _) (x_iald dX5_tells_28)) <|
  fa_c (ok_p (xg_if _ _ _) (x_if_ne dX5_tells_29 (by decide))) <|
  fa_c (ok_p (xg_load _ _ _) (x_iload_n dX5_tells_32 rfl)) <|
  fa_c (ok_p (xg_st _ _) (x_goto dX5_tells_33 (by decide))) <|
  fa_c (ok_p (xg_load _ _ _) (x_aload_n dX5_tells_36 rfl)) <|
  fa_c (ok_p (xg_getf _ _ _) (x_getf (C := RX5) (T := TX5) (N := 34) rfl (by decide) inX5 kw688 dX5_tells_37)) <|
  fa_c (ok_p (xg_load _ _ _) (x_iload_n dX5_tells_40 rfl)) <|
  fa_c (ok_p (xg_iald _) (x_iald dX5_tells_41)) <|
  fa_c (ok_p (xg_st _ _) (x_iconst dX5_tells_42 rfl)) <|
  fa_c (ok_p (xg_icmp _ _ _) (x_icmp_ne dX5_tells_43 (by decide))) <|
  fa_c (ok_p (xg_load _ _ _) (x_iload_n dX5_tells_46 rfl)) <|
  fa_c (ok_p (xg_st _ _) (x_iconst dX5_tells_47 rfl)) <|
  fa_c (ok_p (xg_st _ _) (x_iadd dX5_tells_48)) <|
  fa_c (ok_p (xg_st _ _) (x_goto dX5_tells_49 (by decide))) <|
  fa_c (ok_p (xg_st _ _) (x_iconst dX5_tells_52 rfl)) <|
  fa_c (ok_p (xg_load _ _ _) (x_iload_n dX5_tells_53 rfl)) <|
  fa_c (ok_p (xg_st _ _) (x_imul dX5_tells_54)) <|
  fa_c (ok_p (xg_st _ _) (x_iconst dX5_tells_55 rfl)) <|
  fa_c (ok_p (xg_st _ _) (x_iadd dX5_tells_56)) <|
  fa_c (ok_r ⟨rfl, dX5_tells_57⟩) <|
  fa_n
theorem dX5_over_0 : decode cX5_over 0 = .ok (.lconst 0, 1) := by decide +kernel
theorem dX5_over_1 : decode cX5_over 1 = .ok (.lstore_n 1, 1) := by decide +kernel
theorem dX5_over_2 : decode cX5_over 2 = .ok (.iconst 0, 1) := by decide +kernel
theorem dX5_over_3 : decode cX5_over 3 = .ok (.istore_n 3, 1) := by decide +kernel
theorem dX5_over_4 : decode cX5_over 4 = .ok (.iload_n 3, 1) := by decide +kernel
theorem dX5_over_5 : decode cX5_over 5 = .ok (.aload_n 0, 1) := by decide +kernel
theorem dX5_over_6 : decode cX5_over 6 = .ok (.getfield 62, 3) := by decide +kernel
theorem dX5_over_9 : decode cX5_over 9 = .ok (.if_icmp .ge 34, 3) := by decide +kernel
theorem dX5_over_12 : decode cX5_over 12 = .ok (.lload_n 1, 1) := by decide +kernel
theorem dX5_over_13 : decode cX5_over 13 = .ok (.aload_n 0, 1) := by decide +kernel
theorem dX5_over_14 : decode cX5_over 14 = .ok (.getfield 141, 3) := by decide +kernel
theorem dX5_over_17 : decode cX5_over 17 = .ok (.iload_n 3, 1) := by decide +kernel
theorem dX5_over_18 : decode cX5_over 18 = .ok (.invokestatic 154, 3) := by decide +kernel
theorem dX5_over_21 : decode cX5_over 21 = .ok (.ifCond .eq 7, 3) := by decide +kernel
theorem dX5_over_24 : decode cX5_over 24 = .ok (.lconst 0, 1) := by decide +kernel
theorem dX5_over_25 : decode cX5_over 25 = .ok (.goto 10, 3) := by decide +kernel
theorem dX5_over_28 : decode cX5_over 28 = .ok (.lconst 1, 1) := by decide +kernel
theorem dX5_over_29 : decode cX5_over 29 = .ok (.aload_n 0, 1) := by decide +kernel
theorem dX5_over_30 : decode cX5_over 30 = .ok (.iload_n 3, 1) := by decide +kernel
theorem dX5_over_31 : decode cX5_over 31 = .ok (.invokevirtual 157, 3) := by decide +kernel
theorem dX5_over_34 : decode cX5_over 34 = .ok (.lshl, 1) := by decide +kernel
theorem dX5_over_35 : decode cX5_over 35 = .ok (.lor, 1) := by decide +kernel
theorem dX5_over_36 : decode cX5_over 36 = .ok (.lstore_n 1, 1) := by decide +kernel
theorem dX5_over_37 : decode cX5_over 37 = .ok (.iinc 3 1, 3) := by decide +kernel
theorem dX5_over_40 : decode cX5_over 40 = .ok (.goto (-36), 3) := by decide +kernel
theorem dX5_over_43 : decode cX5_over 43 = .ok (.lload_n 1, 1) := by decide +kernel
theorem dX5_over_44 : decode cX5_over 44 = .ok (.lreturn, 1) := by decide +kernel
set_option maxRecDepth 20000 in
theorem tkX5_over : ∀ q ∈ tbX5_over, xOk (Zm false yX5_over.name) RX5 cX5_over 4 (some .long) pT pY q :=
  fa_c (ok_p (xg_st _ _) (x_lconst dX5_over_0 rfl)) <|
  fa_c (ok_p (xg_store _ _ _) (x_lstore_n dX5_over_1 rfl)) <|
  fa_c (ok_p (xg_st _ _) (x_iconst dX5_over_2 rfl)) <|
  fa_c (ok_p (xg_store _ _ _) (x_istore_n dX5_over_3 rfl)) <|
  fa_c (ok_p (xg_load _ _ _) (x_iload_n dX5_over_4 rfl)) <|
  fa_c (ok_p (xg_load _ _ _) (x_aload_n dX5_over_5 rfl)) <|
  fa_c (ok_p (xg_getf _ _ _) (x_getf (C := RX5) (T := TX5) (N := 34) rfl (by decide) inX5 kw681 dX5_over_6)) <|
  fa_c (ok_p (xg_icmp _ _ _) (x_icmp_ge dX5_over_9 (by decide))) <|
  fa_c (ok_p (xg_load _ _ _) (x_lload_n dX5_over_12 rfl)) <|
  fa_c (ok_p (xg_load _ _ _) (x_aload_n dX5_over_13 rfl)) <|
  fa_c (ok_p (xg_getf _ _ _) (x_getf (C := RX5) (T := TX5) (N := 34) rfl (by decide) inX5 kw685 dX5_over_14)) <|
  fa_c (ok_p (xg_load _ _ _) (x_iload_n dX5_over_17 rfl)) <|
  fa_c (ok_c pT_124 pY_124 (x_callS (n := 2) rfl kw832 kw833 kw63 kw834 (by decide +kernel) dX5_over_18)) <|
  fa_c (ok_p (xg_if _ _ _) (x_if_eq dX5_over_21 (by decide))) <|
  fa_c (ok_p (xg_st _ _) (x_lconst dX5_over_24 rfl)) <|
  fa_c (ok_p (xg_st _ _) (x_goto dX5_over_25 (by decide))) <|
  fa_c (ok_p (xg_st _ _) (x_lconst dX5_over_28 rfl)) <|
  fa_c (ok_p (xg_load _ _ _) (x_aload_n dX5_over_29 rfl)) <|
  fa_c (ok_p (xg_load _ _ _) (x_iload_n dX5_over_30 rfl)) <|
  fa_c (ok_c pT_139 pY_139 (x_callV (n := 1) (C := RX5) (T := TX5) (N := 34) rfl rfl kw835 kw837 kw35 kw63 kw838 (by decide +kernel) dX5_over_31)) <|
  fa_c (ok_p (xg_st _ _) (x_lshl dX5_over_34)) <|
  fa_c (ok_p (xg_st _ _) (x_lor dX5_over_35)) <|
  fa_c (ok_p (xg_store _ _ _) (x_lstore_n dX5_over_36 rfl)) <|
  fa_c (ok_p (xg_iinc _ _ _) (x_iinc dX5_over_37 rfl)) <|
  fa_c (ok_p (xg_st _ _) (x_goto dX5_over_40 (by decide))) <|
  fa_c (ok_p (xg_load _ _ _) (x_lload_n dX5_over_43 rfl)) <|
  fa_c (ok_r ⟨rfl, dX5_over_44⟩) <|
  fa_n
theorem dX5_ofLooker_0 : decode cX5_ofLooker 0 = .ok (.aload_n 0, 1) := by decide +kernel
theorem dX5_ofLooker_1 : decode cX5_ofLooker 1 = .ok (.iload_n 1, 1) := by decide +kernel
theorem dX5_ofLooker_2 : decode cX5_ofLooker 2 = .ok (.invokevirtual 160, 3) := by decide +kernel
theorem dX5_ofLooker_5 : decode cX5_ofLooker 5 = .ok (.ifCond .eq 5, 3) := by decide +kernel
theorem dX5_ofLooker_8 : decode cX5_ofLooker 8 = .ok (.iconst (-1), 1) := by decide +kernel
theorem dX5_ofLooker_9 : decode cX5_ofLooker 9 = .ok (.ireturn, 1) := by decide +kernel
theorem dX5_ofLooker_10 : decode cX5_ofLooker 10 = .ok (.iload_n 2, 1) := by decide +kernel
theorem dX5_ofLooker_11 : decode cX5_ofLooker 11 = .ok (.tableswitch 78 0 4 #[33, 40, 47, 56, 62], 33) := by decide +kernel
theorem dX5_ofLooker_44 : decode cX5_ofLooker 44 = .ok (.aload_n 0, 1) := by decide +kernel
theorem dX5_ofLooker_45 : decode cX5_ofLooker 45 = .ok (.getfield 13, 3) := by decide +kernel
theorem dX5_ofLooker_48 : decode cX5_ofLooker 48 = .ok (.iload_n 1, 1) := by decide +kernel
theorem dX5_ofLooker_49 : decode cX5_ofLooker 49 = .ok (.iaload, 1) := by decide +kernel
theorem dX5_ofLooker_50 : decode cX5_ofLooker 50 = .ok (.ireturn, 1) := by decide +kernel
theorem dX5_ofLooker_51 : decode cX5_ofLooker 51 = .ok (.aload_n 0, 1) := by decide +kernel
theorem dX5_ofLooker_52 : decode cX5_ofLooker 52 = .ok (.getfield 16, 3) := by decide +kernel
theorem dX5_ofLooker_55 : decode cX5_ofLooker 55 = .ok (.iload_n 1, 1) := by decide +kernel
theorem dX5_ofLooker_56 : decode cX5_ofLooker 56 = .ok (.iaload, 1) := by decide +kernel
theorem dX5_ofLooker_57 : decode cX5_ofLooker 57 = .ok (.ireturn, 1) := by decide +kernel
theorem dX5_ofLooker_58 : decode cX5_ofLooker 58 = .ok (.aload_n 0, 1) := by decide +kernel
theorem dX5_ofLooker_59 : decode cX5_ofLooker 59 = .ok (.getfield 141, 3) := by decide +kernel
theorem dX5_ofLooker_62 : decode cX5_ofLooker 62 = .ok (.iload_n 1, 1) := by decide +kernel
theorem dX5_ofLooker_63 : decode cX5_ofLooker 63 = .ok (.ishr, 1) := by decide +kernel
theorem dX5_ofLooker_64 : decode cX5_ofLooker 64 = .ok (.iconst 1, 1) := by decide +kernel
theorem dX5_ofLooker_65 : decode cX5_ofLooker 65 = .ok (.iand, 1) := by decide +kernel
theorem dX5_ofLooker_66 : decode cX5_ofLooker 66 = .ok (.ireturn, 1) := by decide +kernel
theorem dX5_ofLooker_67 : decode cX5_ofLooker 67 = .ok (.aload_n 0, 1) := by decide +kernel
theorem dX5_ofLooker_68 : decode cX5_ofLooker 68 = .ok (.iload_n 1, 1) := by decide +kernel
theorem dX5_ofLooker_69 : decode cX5_ofLooker 69 = .ok (.invokevirtual 157, 3) := by decide +kernel
theorem dX5_ofLooker_72 : decode cX5_ofLooker 72 = .ok (.ireturn, 1) := by decide +kernel
theorem dX5_ofLooker_73 : decode cX5_ofLooker 73 = .ok (.aload_n 0, 1) := by decide +kernel
theorem dX5_ofLooker_74 : decode cX5_ofLooker 74 = .ok (.iload_n 1, 1) := by decide +kernel
theorem dX5_ofLooker_75 : decode cX5_ofLooker 75 = .ok (.aload_n 0, 1) := by decide +kernel
theorem dX5_ofLooker_76 : decode cX5_ofLooker 76 = .ok (.getfield 7, 3) := by decide +kernel
theorem dX5_ofLooker_79 : decode cX5_ofLooker 79 = .ok (.aload_n 0, 1) := by decide +kernel
theorem dX5_ofLooker_80 : decode cX5_ofLooker 80 = .ok (.iload_n 1, 1) := by decide +kernel
theorem dX5_ofLooker_81 : decode cX5_ofLooker 81 = .ok (.invokevirtual 157, 3) := by decide +kernel
theorem dX5_ofLooker_84 : decode cX5_ofLooker 84 = .ok (.iaload, 1) := by decide +kernel
theorem dX5_ofLooker_85 : decode cX5_ofLooker 85 = .ok (.invokevirtual 163, 3) := by decide +kernel
theorem dX5_ofLooker_88 : decode cX5_ofLooker 88 = .ok (.ireturn, 1) := by decide +kernel
theorem dX5_ofLooker_89 : decode cX5_ofLooker 89 = .ok (.bipush (-2), 2) := by decide +kernel
theorem dX5_ofLooker_91 : decode cX5_ofLooker 91 = .ok (.ireturn, 1) := by decide +kernel
set_option maxRecDepth 20000 in
theorem tkX5_ofLooker : ∀ q ∈ tbX5_ofLooker, xOk (Zm false yX5_ofLooker.name) RX5 cX5_ofLooker 3 (some .int) pT pY q :=
  fa_c (ok_p (xg_load _ _ _) (x_aload_n dX5_ofLooker_0 rfl)) <|
  fa_c (ok_p (xg_load _ _ _) (x_iload_n dX5_ofLooker_1 rfl)) <|
  fa_c (ok_c pT_130 pY_130 (x_callV (n := 1) (C := RX5) (T := TX5) (N := 34) rfl rfl kw843 kw845 kw36 kw63 kw846 (by decide +kernel) dX5_ofLooker_2)) <|
  fa_c (ok_p (xg_if _ _ _) (x_if_eq dX5_ofLooker_5 (by decide))) <|
  fa_c (ok_p (xg_st _ _) (x_iconst dX5_ofLooker_8 rfl)) <|
  fa_c (ok_r ⟨rfl, dX5_ofLooker_9⟩) <|
  fa_c (ok_p (xg_load _ _ _) (x_iload_n dX5_ofLooker_10 rfl)) <|
  fa_c (ok_p (xg_sw _ _) (x_tsw dX5_ofLooker_11 (by decide) (by decide +kernel) (by decide +kernel))) <|
  fa_c (ok_p (xg_load _ _ _) (x_aload_n dX5_ofLooker_44 rfl)) <|
  fa_c (ok_p (xg_getf _ _ _) (x_getf (C := RX5) (T := TX5) (N := 34) rfl (by decide) inX5 kw688 dX5_ofLooker_45)) <|
  fa_c (ok_p (xg_load _ _ _) (x_iload_n dX5_ofLooker_48 rfl)) <|
  fa_c (ok_p (xg_iald _) (x_iald dX5_ofLooker_49)) <|
  fa_c (ok_r ⟨rfl, dX5_ofLooker_50⟩) <|
  fa_c (ok_p (xg_load _ _ _) (x_aload_n dX5_ofLooker_51 rfl)) <|
  fa_c (ok_p (xg_getf _ _ _) (x_getf (C := RX5) (T := TX5) (N := 34) rfl (by decide) inX5 kw689 dX5_ofLooker_52)) <|
  fa_c (ok_p (xg_load _ _ _) (x_iload_n dX5_ofLooker_55 rfl)) <|
  fa_c (ok_p (xg_iald _) (x_iald dX5_ofLooker_56)) <|
  fa_c (ok_r ⟨rfl, dX5_ofLooker_57⟩) <|
  fa_c (ok_p (xg_load _ _ _) (x_aload_n dX5_ofLooker_58 rfl)) <|
  fa_c (ok_p (xg_getf _ _ _) (x_getf (C := RX5) (T := TX5) (N := 34) rfl (by decide) inX5 kw685 dX5_ofLooker_59)) <|
  fa_c (ok_p (xg_load _ _ _) (x_iload_n dX5_ofLooker_62 rfl)) <|
  fa_c (ok_p (xg_st _ _) (x_ishr dX5_ofLooker_63)) <|
  fa_c (ok_p (xg_st _ _) (x_iconst dX5_ofLooker_64 rfl)) <|
  fa_c (ok_p (xg_st _ _) (x_iand dX5_ofLooker_65)) <|
  fa_c (ok_r ⟨rfl, dX5_ofLooker_66⟩) <|
  fa_c (ok_p (xg_load _ _ _) (x_aload_n dX5_ofLooker_67 rfl)) <|
  fa_c (ok_p (xg_load _ _ _) (x_iload_n dX5_ofLooker_68 rfl)) <|
  fa_c (ok_c pT_139 pY_139 (x_callV (n := 1) (C := RX5) (T := TX5) (N := 34) rfl rfl kw835 kw837 kw35 kw63 kw838 (by decide +kernel) dX5_ofLooker_69)) <|
  fa_c (ok_r ⟨rfl, dX5_ofLooker_72⟩) <|
  fa_c (ok_p (xg_load _ _ _) (x_aload_n dX5_ofLooker_73 rfl)) <|
  fa_c (ok_p (xg_load _ _ _) (x_iload_n dX5_ofLooker_74 rfl)) <|
  fa_c (ok_p (xg_load _ _ _) (x_aload_n dX5_ofLooker_75 rfl)) <|
  fa_c (ok_p (xg_getf _ _ _) (x_getf (C := RX5) (T := TX5) (N := 34) rfl (by decide) inX5 kw687 dX5_ofLooker_76)) <|
  fa_c (ok_p (xg_load _ _ _) (x_aload_n dX5_ofLooker_79 rfl)) <|
  fa_c (ok_p (xg_load _ _ _) (x_iload_n dX5_ofLooker_80 rfl)) <|
  fa_c (ok_c pT_139 pY_139 (x_callV (n := 1) (C := RX5) (T := TX5) (N := 34) rfl rfl kw835 kw837 kw35 kw63 kw838 (by decide +kernel) dX5_ofLooker_81)) <|
  fa_c (ok_p (xg_iald _) (x_iald dX5_ofLooker_84)) <|
  fa_c (ok_c pT_140 pY_140 (x_callV (n := 2) (C := RX5) (T := TX5) (N := 34) rfl rfl kw847 kw849 kw37 kw63 kw850 (by decide +kernel) dX5_ofLooker_85)) <|
  fa_c (ok_r ⟨rfl, dX5_ofLooker_88⟩) <|
  fa_c (ok_p (xg_st _ _) (x_bipush dX5_ofLooker_89 rfl)) <|
  fa_c (ok_r ⟨rfl, dX5_ofLooker_91⟩) <|
  fa_n
theorem dX5_height_0 : decode cX5_height 0 = .ok (.aload_n 0, 1) := by decide +kernel
theorem dX5_height_1 : decode cX5_height 1 = .ok (.iload_n 1, 1) := by decide +kernel
theorem dX5_height_2 : decode cX5_height 2 = .ok (.invokevirtual 166, 3) := by decide +kernel
theorem dX5_height_5 : decode cX5_height 5 = .ok (.ifCond .eq 7, 3) := by decide +kernel
theorem dX5_height_8 : decode cX5_height 8 = .ok (.iconst (-1), 1) := by decide +kernel
theorem dX5_height_9 : decode cX5_height 9 = .ok (.goto 9, 3) := by decide +kernel
theorem dX5_height_12 : decode cX5_height 12 = .ok (.aload_n 0, 1) := by decide +kernel
theorem dX5_height_13 : decode cX5_height 13 = .ok (.getfield 7, 3) := by decide +kernel
theorem dX5_height_16 : decode cX5_height 16 = .ok (.iload_n 1, 1) := by decide +kernel
theorem dX5_height_17 : decode cX5_height 17 = .ok (.iaload, 1) := by decide +kernel
theorem dX5_height_18 : decode cX5_height 18 = .ok (.ireturn, 1) := by decide +kernel
set_option maxRecDepth 20000 in
theorem tkX5_height : ∀ q ∈ tbX5_height, xOk (Zm false yX5_height.name) RX5 cX5_height 2 (some .int) pT pY q :=
  fa_c (ok_p (xg_load _ _ _) (x_aload_n dX5_height_0 rfl)) <|
  fa_c (ok_p (xg_load _ _ _) (x_iload_n dX5_height_1 rfl)) <|
  fa_c (ok_c pT_131 pY_131 (x_callV (n := 1) (C := RX5) (T := TX5) (N := 34) rfl rfl kw855 kw857 kw38 kw63 kw858 (by decide +kernel) dX5_height_2)) <|
  fa_c (ok_p (xg_if _ _ _) (x_if_eq dX5_height_5 (by decide))) <|
  fa_c (ok_p (xg_st _ _) (x_iconst dX5_height_8 rfl)) <|
  fa_c (ok_p (xg_st _ _) (x_goto dX5_height_9 (by decide))) <|
  fa_c (ok_p (xg_load _ _ _) (x_aload_n dX5_height_12 rfl)) <|
  fa_c (ok_p (xg_getf _ _ _) (x_getf (C := RX5) (T := TX5) (N := 34) rfl (by decide) inX5 kw687 dX5_height_13)) <|
  fa_c (ok_p (xg_load _ _ _) (x_iload_n dX5_height_16 rfl)) <|
  fa_c (ok_p (xg_iald _) (x_iald dX5_height_17)) <|
  fa_c (ok_r ⟨rfl, dX5_height_18⟩) <|
  fa_n
theorem dX5_heap_0 : decode cX5_heap 0 = .ok (.aload_n 0, 1) := by decide +kernel
theorem dX5_heap_1 : decode cX5_heap 1 = .ok (.iload_n 1, 1) := by decide +kernel
theorem dX5_heap_2 : decode cX5_heap 2 = .ok (.invokevirtual 166, 3) := by decide +kernel
theorem dX5_heap_5 : decode cX5_heap 5 = .ok (.ifCond .eq 5, 3) := by decide +kernel
theorem dX5_heap_8 : decode cX5_heap 8 = .ok (.iconst (-1), 1) := by decide +kernel
theorem dX5_heap_9 : decode cX5_heap 9 = .ok (.ireturn, 1) := by decide +kernel
theorem dX5_heap_10 : decode cX5_heap 10 = .ok (.iload_n 2, 1) := by decide +kernel
theorem dX5_heap_11 : decode cX5_heap 11 = .ok (.i2l, 1) := by decide +kernel
theorem dX5_heap_12 : decode cX5_heap 12 = .ok (.lconst 0, 1) := by decide +kernel
theorem dX5_heap_13 : decode cX5_heap 13 = .ok (.ldc2_w 169, 3) := by decide +kernel
theorem dX5_heap_16 : decode cX5_heap 16 = .ok (.invokestatic 65, 3) := by decide +kernel
theorem dX5_heap_19 : decode cX5_heap 19 = .ok (.ifCond .ne 6, 3) := by decide +kernel
theorem dX5_heap_22 : decode cX5_heap 22 = .ok (.bipush (-2), 2) := by decide +kernel
theorem dX5_heap_24 : decode cX5_heap 24 = .ok (.ireturn, 1) := by decide +kernel
theorem dX5_heap_25 : decode cX5_heap 25 = .ok (.aload_n 0, 1) := by decide +kernel
theorem dX5_heap_26 : decode cX5_heap 26 = .ok (.getfield 7, 3) := by decide +kernel
theorem dX5_heap_29 : decode cX5_heap 29 = .ok (.iload_n 1, 1) := by decide +kernel
theorem dX5_heap_30 : decode cX5_heap 30 = .ok (.iaload, 1) := by decide +kernel
theorem dX5_heap_31 : decode cX5_heap 31 = .ok (.istore_n 3, 1) := by decide +kernel
theorem dX5_heap_32 : decode cX5_heap 32 = .ok (.aload_n 0, 1) := by decide +kernel
theorem dX5_heap_33 : decode cX5_heap 33 = .ok (.getfield 7, 3) := by decide +kernel
theorem dX5_heap_36 : decode cX5_heap 36 = .ok (.iload_n 1, 1) := by decide +kernel
theorem dX5_heap_37 : decode cX5_heap 37 = .ok (.iload_n 2, 1) := by decide +kernel
theorem dX5_heap_38 : decode cX5_heap 38 = .ok (.iastore, 1) := by decide +kernel
theorem dX5_heap_39 : decode cX5_heap 39 = .ok (.iload_n 3, 1) := by decide +kernel
theorem dX5_heap_40 : decode cX5_heap 40 = .ok (.ireturn, 1) := by decide +kernel
set_option maxRecDepth 20000 in
theorem tkX5_heap : ∀ q ∈ tbX5_heap, xOk (Zm false yX5_heap.name) RX5 cX5_heap 4 (some .int) pT pY q :=
  fa_c (ok_p (xg_load _ _ _) (x_aload_n dX5_heap_0 rfl)) <|
  fa_c (ok_p (xg_load _ _ _) (x_iload_n dX5_heap_1 rfl)) <|
  fa_c (ok_c pT_131 pY_131 (x_callV (n := 1) (C := RX5) (T := TX5) (N := 34) rfl rfl kw855 kw857 kw38 kw63 kw858 (by decide +kernel) dX5_heap_2)) <|
  fa_c (ok_p (xg_if _ _ _) (x_if_eq dX5_heap_5 (by decide))) <|
  fa_c (ok_p (xg_st _ _) (x_iconst dX5_heap_8 rfl)) <|
  fa_c (ok_r ⟨rfl, dX5_heap_9⟩) <|
  fa_c (ok_p (xg_load _ _ _) (x_iload_n dX5_heap_10 rfl)) <|
  fa_c (ok_p (xg_st _ _) (x_i2l dX5_heap_11)) <|
  fa_c (ok_p (xg_st _ _) (x_lconst dX5_heap_12 rfl)) <|
  fa_c (ok_p (xg_st _ _) (x_ldc2 dX5_heap_13 kw863)) <|
  fa_c (ok_c pT_122 pY_122 (x_callS (n := 3) rfl kw789 kw790 kw63 kw791 (by decide +kernel) dX5_heap_16)) <|
  fa_c (ok_p (xg_if _ _ _) (x_if_ne dX5_heap_19 (by decide))) <|
  fa_c (ok_p (xg_st _ _) (x_bipush dX5_heap_22 rfl)) <|
  fa_c (ok_r ⟨rfl, dX5_heap_24⟩) <|
  fa_c (ok_p (xg_load _ _ _) (x_aload_n dX5_heap_25 rfl)) <|
  fa_c (ok_p (xg_getf _ _ _) (x_getf (C := RX5) (T := TX5) (N := 34) rfl (by decide) inX5 kw687 dX5_heap_26)) <|
  fa_c (ok_p (xg_load _ _ _) (x_iload_n dX5_heap_29 rfl)) <|
  fa_c (ok_p (xg_iald _) (x_iald dX5_heap_30)) <|
  fa_c (ok_p (xg_store _ _ _) (x_istore_n dX5_heap_31 rfl)) <|
  fa_c (ok_p (xg_load _ _ _) (x_aload_n dX5_heap_32 rfl)) <|
  fa_c (ok_p (xg_getf _ _ _) (x_getf (C := RX5) (T := TX5) (N := 34) rfl (by decide) inX5 kw687 dX5_heap_33)) <|
  fa_c (ok_p (xg_load _ _ _) (x_iload_n dX5_heap_36 rfl)) <|
  fa_c (ok_p (xg_load _ _ _) (x_iload_n dX5_heap_37 rfl)) <|
  fa_c (ok_p (xg_iast _) (x_iast dX5_heap_38)) <|
  fa_c (ok_p (xg_load _ _ _) (x_iload_n dX5_heap_39 rfl)) <|
  fa_c (ok_r ⟨rfl, dX5_heap_40⟩) <|
  fa_n
