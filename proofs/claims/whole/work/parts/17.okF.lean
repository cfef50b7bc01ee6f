/-! the tables are the methods' code: by program -/
theorem dX5_begunBy_0 : decode cX5_begunBy 0 = .ok (.iconst 0, 1) := by decide +kernel
theorem dX5_begunBy_1 : decode cX5_begunBy 1 = .ok (.istore 5, 2) := by decide +kernel
theorem dX5_begunBy_3 : decode cX5_begunBy 3 = .ok (.bipush (-9), 2) := by decide +kernel
theorem dX5_begunBy_5 : decode cX5_begunBy 5 = .ok (.istore 6, 2) := by decide +kernel
theorem dX5_begunBy_7 : decode cX5_begunBy 7 = .ok (.bipush (-9), 2) := by decide +kernel
theorem dX5_begunBy_9 : decode cX5_begunBy 9 = .ok (.istore 7, 2) := by decide +kernel
theorem dX5_begunBy_11 : decode cX5_begunBy 11 = .ok (.iconst 0, 1) := by decide +kernel
theorem dX5_begunBy_12 : decode cX5_begunBy 12 = .ok (.istore 8, 2) := by decide +kernel
theorem dX5_begunBy_14 : decode cX5_begunBy 14 = .ok (.iload 8, 2) := by decide +kernel
theorem dX5_begunBy_16 : decode cX5_begunBy 16 = .ok (.aload_n 0, 1) := by decide +kernel
theorem dX5_begunBy_17 : decode cX5_begunBy 17 = .ok (.getfield 72, 3) := by decide +kernel
theorem dX5_begunBy_20 : decode cX5_begunBy 20 = .ok (.if_icmp .ge 83, 3) := by decide +kernel
theorem dX5_begunBy_23 : decode cX5_begunBy 23 = .ok (.iconst 0, 1) := by decide +kernel
theorem dX5_begunBy_24 : decode cX5_begunBy 24 = .ok (.istore 9, 2) := by decide +kernel
theorem dX5_begunBy_26 : decode cX5_begunBy 26 = .ok (.iload 9, 2) := by decide +kernel
theorem dX5_begunBy_28 : decode cX5_begunBy 28 = .ok (.aload_n 0, 1) := by decide +kernel
theorem dX5_begunBy_29 : decode cX5_begunBy 29 = .ok (.getfield 69, 3) := by decide +kernel
theorem dX5_begunBy_32 : decode cX5_begunBy 32 = .ok (.aload_n 0, 1) := by decide +kernel
theorem dX5_begunBy_33 : decode cX5_begunBy 33 = .ok (.getfield 62, 3) := by decide +kernel
theorem dX5_begunBy_36 : decode cX5_begunBy 36 = .ok (.isub, 1) := by decide +kernel
theorem dX5_begunBy_37 : decode cX5_begunBy 37 = .ok (.if_icmp .gt 60, 3) := by decide +kernel
theorem dX5_begunBy_40 : decode cX5_begunBy 40 = .ok (.aload_n 0, 1) := by decide +kernel
theorem dX5_begunBy_41 : decode cX5_begunBy 41 = .ok (.iload_n 1, 1) := by decide +kernel
theorem dX5_begunBy_42 : decode cX5_begunBy 42 = .ok (.iload_n 2, 1) := by decide +kernel
theorem dX5_begunBy_43 : decode cX5_begunBy 43 = .ok (.iload_n 3, 1) := by decide +kernel
theorem dX5_begunBy_44 : decode cX5_begunBy 44 = .ok (.iload 9, 2) := by decide +kernel
theorem dX5_begunBy_46 : decode cX5_begunBy 46 = .ok (.iload 8, 2) := by decide +kernel
theorem dX5_begunBy_48 : decode cX5_begunBy 48 = .ok (.invokevirtual 239, 3) := by decide +kernel
theorem dX5_begunBy_51 : decode cX5_begunBy 51 = .ok (.ifCond .eq 40, 3) := by decide +kernel
theorem dX5_begunBy_54 : decode cX5_begunBy 54 = .ok (.iinc 5 1, 3) := by decide +kernel
theorem dX5_begunBy_57 : decode cX5_begunBy 57 = .ok (.iload 6, 2) := by decide +kernel
theorem dX5_begunBy_59 : decode cX5_begunBy 59 = .ok (.ifCond .ge 16, 3) := by decide +kernel
theorem dX5_begunBy_62 : decode cX5_begunBy 62 = .ok (.aload_n 0, 1) := by decide +kernel
theorem dX5_begunBy_63 : decode cX5_begunBy 63 = .ok (.getfield 69, 3) := by decide +kernel
theorem dX5_begunBy_66 : decode cX5_begunBy 66 = .ok (.iload 8, 2) := by decide +kernel
theorem dX5_begunBy_68 : decode cX5_begunBy 68 = .ok (.imul, 1) := by decide +kernel
theorem dX5_begunBy_69 : decode cX5_begunBy 69 = .ok (.iload 9, 2) := by decide +kernel
theorem dX5_begunBy_71 : decode cX5_begunBy 71 = .ok (.iadd, 1) := by decide +kernel
theorem dX5_begunBy_72 : decode cX5_begunBy 72 = .ok (.goto 5, 3) := by decide +kernel
theorem dX5_begunBy_75 : decode cX5_begunBy 75 = .ok (.iload 6, 2) := by decide +kernel
theorem dX5_begunBy_77 : decode cX5_begunBy 77 = .ok (.istore 6, 2) := by decide +kernel
theorem dX5_begunBy_79 : decode cX5_begunBy 79 = .ok (.aload_n 0, 1) := by decide +kernel
theorem dX5_begunBy_80 : decode cX5_begunBy 80 = .ok (.getfield 69, 3) := by decide +kernel
theorem dX5_begunBy_83 : decode cX5_begunBy 83 = .ok (.iload 8, 2) := by decide +kernel
theorem dX5_begunBy_85 : decode cX5_begunBy 85 = .ok (.imul, 1) := by decide +kernel
theorem dX5_begunBy_86 : decode cX5_begunBy 86 = .ok (.iload 9, 2) := by decide +kernel
theorem dX5_begunBy_88 : decode cX5_begunBy 88 = .ok (.iadd, 1) := by decide +kernel
theorem dX5_begunBy_89 : decode cX5_begunBy 89 = .ok (.istore 7, 2) := by decide +kernel
theorem dX5_begunBy_91 : decode cX5_begunBy 91 = .ok (.iinc 9 1, 3) := by decide +kernel
theorem dX5_begunBy_94 : decode cX5_begunBy 94 = .ok (.goto (-68), 3) := by decide +kernel
theorem dX5_begunBy_97 : decode cX5_begunBy 97 = .ok (.iinc 8 1, 3) := by decide +kernel
theorem dX5_begunBy_100 : decode cX5_begunBy 100 = .ok (.goto (-86), 3) := by decide +kernel
theorem dX5_begunBy_103 : decode cX5_begunBy 103 = .ok (.iload 4, 2) := by decide +kernel
theorem dX5_begunBy_105 : decode cX5_begunBy 105 = .ok (.ifCond .ne 8, 3) := by decide +kernel
theorem dX5_begunBy_108 : decode cX5_begunBy 108 = .ok (.iload 5, 2) := by decide +kernel
theorem dX5_begunBy_110 : decode cX5_begunBy 110 = .ok (.goto 16, 3) := by decide +kernel
theorem dX5_begunBy_113 : decode cX5_begunBy 113 = .ok (.iload 4, 2) := by decide +kernel
theorem dX5_begunBy_115 : decode cX5_begunBy 115 = .ok (.iconst 1, 1) := by decide +kernel
theorem dX5_begunBy_116 : decode cX5_begunBy 116 = .ok (.if_icmp .ne 8, 3) := by decide +kernel
theorem dX5_begunBy_119 : decode cX5_begunBy 119 = .ok (.iload 6, 2) := by decide +kernel
theorem dX5_begunBy_121 : decode cX5_begunBy 121 = .ok (.goto 5, 3) := by decide +kernel
theorem dX5_begunBy_124 : decode cX5_begunBy 124 = .ok (.iload 7, 2) := by decide +kernel
theorem dX5_begunBy_126 : decode cX5_begunBy 126 = .ok (.ireturn, 1) := by decide +kernel
set_option maxRecDepth 20000 in
theorem tkX5_begunBy : ∀ q ∈ tbX5_begunBy, xOk (Zm false yX5_begunBy.name) RX5 cX5_begunBy 10 (some .int) pT pY q :=
  fa_c (ok_p (xg_st _ _) (x_iconst dX5_begunBy_0 rfl)) <|
  fa_c (ok_p (xg_store _ _ _) (x_istore dX5_begunBy_1)) <|
  fa_c (ok_p (xg_st _ _) (x_bipush dX5_begunBy_3 rfl)) <|
  fa_c (ok_p (xg_store _ _ _) (x_istore dX5_begunBy_5)) <|
  fa_c (ok_p (xg_st _ _) (x_bipush dX5_begunBy_7 rfl)) <|
  fa_c (ok_p (xg_store _ _ _) (x_istore dX5_begunBy_9)) <|
  fa_c (ok_p (xg_st _ _) (x_iconst dX5_begunBy_11 rfl)) <|
  fa_c (ok_p (xg_store _ _ _) (x_istore dX5_begunBy_12)) <|
  fa_c (ok_p (xg_clr _ (xg_load _ _ _)) (x_clr _ (x_iload dX5_begunBy_14))) <|
  fa_c (ok_p (xg_load _ _ _) (x_aload_n dX5_begunBy_16 rfl)) <|
  fa_c (ok_p (xg_getf _ _ _) (x_getf (C := RX5) (T := TX5) (N := 34) rfl (by decide) inX5 kw680 dX5_begunBy_17)) <|
  fa_c (ok_p (xg_icmp _ _ _) (x_icmp_ge dX5_begunBy_20 (by decide))) <|
  fa_c (ok_p (xg_st _ _) (x_iconst dX5_begunBy_23 rfl)) <|
  fa_c (ok_p (xg_store _ _ _) (x_istore dX5_begunBy_24)) <|
  fa_c (ok_p (xg_load _ _ _) (x_iload dX5_begunBy_26)) <|
  fa_c (ok_p (xg_load _ _ _) (x_aload_n dX5_begunBy_28 rfl)) <|
  fa_c (ok_p (xg_getf _ _ _) (x_getf (C := RX5) (T := TX5) (N := 34) rfl (by decide) inX5 kw679 dX5_begunBy_29)) <|
  fa_c (ok_p (xg_load _ _ _) (x_aload_n dX5_begunBy_32 rfl)) <|
  fa_c (ok_p (xg_getf _ _ _) (x_getf (C := RX5) (T := TX5) (N := 34) rfl (by decide) inX5 kw681 dX5_begunBy_33)) <|
  fa_c (ok_p (xg_st _ _) (x_isub dX5_begunBy_36)) <|
  fa_c (ok_p (xg_icmp _ _ _) (x_icmp_gt dX5_begunBy_37 (by decide))) <|
  fa_c (ok_p (xg_load _ _ _) (x_aload_n dX5_begunBy_40 rfl)) <|
  fa_c (ok_p (xg_load _ _ _) (x_iload_n dX5_begunBy_41 rfl)) <|
  fa_c (ok_p (xg_load _ _ _) (x_iload_n dX5_begunBy_42 rfl)) <|
  fa_c (ok_p (xg_load _ _ _) (x_iload_n dX5_begunBy_43 rfl)) <|
  fa_c (ok_p (xg_load _ _ _) (x_iload dX5_begunBy_44)) <|
  fa_c (ok_p (xg_load _ _ _) (x_iload dX5_begunBy_46)) <|
  fa_c (ok_c pT_168 pY_168 (x_callV (n := 5) (C := RX5) (T := TX5) (N := 34) rfl rfl kw974 kw976 kw52 kw63 kw977 (by decide +kernel) dX5_begunBy_48)) <|
  fa_c (ok_p (xg_if _ _ _) (x_if_eq dX5_begunBy_51 (by decide))) <|
  fa_c (ok_p (xg_iinc _ _ _) (x_iinc dX5_begunBy_54 rfl)) <|
  fa_c (ok_p (xg_load _ _ _) (x_iload dX5_begunBy_57)) <|
  fa_c (ok_p (xg_if _ _ _) (x_if_ge dX5_begunBy_59 (by decide))) <|
  fa_c (ok_p (xg_load _ _ _) (x_aload_n dX5_begunBy_62 rfl)) <|
  fa_c (ok_p (xg_getf _ _ _) (x_getf (C := RX5) (T := TX5) (N := 34) rfl (by decide) inX5 kw679 dX5_begunBy_63)) <|
  fa_c (ok_p (xg_load _ _ _) (x_iload dX5_begunBy_66)) <|
  fa_c (ok_p (xg_st _ _) (x_imul dX5_begunBy_68)) <|
  fa_c (ok_p (xg_load _ _ _) (x_iload dX5_begunBy_69)) <|
  fa_c (ok_p (xg_st _ _) (x_iadd dX5_begunBy_71)) <|
  fa_c (ok_p (xg_st _ _) (x_goto dX5_begunBy_72 (by decide))) <|
  fa_c (ok_p (xg_load _ _ _) (x_iload dX5_begunBy_75)) <|
  fa_c (ok_p (xg_store _ _ _) (x_istore dX5_begunBy_77)) <|
  fa_c (ok_p (xg_load _ _ _) (x_aload_n dX5_begunBy_79 rfl)) <|
  fa_c (ok_p (xg_getf _ _ _) (x_getf (C := RX5) (T := TX5) (N := 34) rfl (by decide) inX5 kw679 dX5_begunBy_80)) <|
  fa_c (ok_p (xg_load _ _ _) (x_iload dX5_begunBy_83)) <|
  fa_c (ok_p (xg_st _ _) (x_imul dX5_begunBy_85)) <|
  fa_c (ok_p (xg_load _ _ _) (x_iload dX5_begunBy_86)) <|
  fa_c (ok_p (xg_st _ _) (x_iadd dX5_begunBy_88)) <|
  fa_c (ok_p (xg_store _ _ _) (x_istore dX5_begunBy_89)) <|
  fa_c (ok_p (xg_iinc _ _ _) (x_iinc dX5_begunBy_91 rfl)) <|
  fa_c (ok_p (xg_st _ _) (x_goto dX5_begunBy_94 (by decide))) <|
  fa_c (ok_p (xg_iinc _ _ _) (x_iinc dX5_begunBy_97 rfl)) <|
  fa_c (ok_p (xg_st _ _) (x_goto dX5_begunBy_100 (by decide))) <|
  fa_c (ok_p (xg_load _ _ _) (x_iload dX5_begunBy_103)) <|
  fa_c (ok_p (xg_if _ _ _) (x_if_ne dX5_begunBy_105 (by decide))) <|
  fa_c (ok_p (xg_load _ _ _) (x_iload dX5_begunBy_108)) <|
  fa_c (ok_p (xg_st _ _) (x_goto dX5_begunBy_110 (by decide))) <|
  fa_c (ok_p (xg_load _ _ _) (x_iload dX5_begunBy_113)) <|
  fa_c (ok_p (xg_st _ _) (x_iconst dX5_begunBy_115 rfl)) <|
  fa_c (ok_p (xg_icmp _ _ _) (x_icmp_ne dX5_begunBy_116 (by decide))) <|
  fa_c (ok_p (xg_load _ _ _) (x_iload dX5_begunBy_119)) <|
  fa_c (ok_p (xg_st _ _) (x_goto dX5_begunBy_121 (by decide))) <|
  fa_c (ok_p (xg_load _ _ _) (x_iload dX5_begunBy_124)) <|
  fa_c (ok_r ⟨rfl, dX5_begunBy_126⟩) <|
  fa_n
theorem dX5_begun_0 : decode cX5_begun 0 = .ok (.iload_n 1, 1) := by decide +kernel
theorem dX5_begun_1 : decode cX5_begun 1 = .ok (.invokestatic 116, 3) := by decide +kernel
theorem dX5_begun_4 : decode cX5_begun 4 = .ok (.ifCond .eq 9, 3) := by decide +kernel
theorem dX5_begun_7 : decode cX5_begun 7 = .ok (.aload_n 0, 1) := by decide +kernel
theorem dX5_begun_8 : decode cX5_begun 8 = .ok (.iconst (-1), 1) := by decide +kernel
theorem dX5_begun_9 : decode cX5_begun 9 = .ok (.invokevirtual 120, 3) := by decide +kernel
theorem dX5_begun_12 : decode cX5_begun 12 = .ok (.ireturn, 1) := by decide +kernel
theorem dX5_begun_13 : decode cX5_begun 13 = .ok (.iload_n 2, 1) := by decide +kernel
theorem dX5_begun_14 : decode cX5_begun 14 = .ok (.i2l, 1) := by decide +kernel
theorem dX5_begun_15 : decode cX5_begun 15 = .ok (.lconst 0, 1) := by decide +kernel
theorem dX5_begun_16 : decode cX5_begun 16 = .ok (.ldc2_w 123, 3) := by decide +kernel
theorem dX5_begun_19 : decode cX5_begun 19 = .ok (.invokestatic 65, 3) := by decide +kernel
theorem dX5_begun_22 : decode cX5_begun 22 = .ok (.ifCond .eq 42, 3) := by decide +kernel
theorem dX5_begun_25 : decode cX5_begun 25 = .ok (.iload 4, 2) := by decide +kernel
theorem dX5_begun_27 : decode cX5_begun 27 = .ok (.i2l, 1) := by decide +kernel
theorem dX5_begun_28 : decode cX5_begun 28 = .ok (.lconst 1, 1) := by decide +kernel
theorem dX5_begun_29 : decode cX5_begun 29 = .ok (.ldc2_w 243, 3) := by decide +kernel
theorem dX5_begun_32 : decode cX5_begun 32 = .ok (.invokestatic 65, 3) := by decide +kernel
theorem dX5_begun_35 : decode cX5_begun 35 = .ok (.ifCond .eq 29, 3) := by decide +kernel
theorem dX5_begun_38 : decode cX5_begun 38 = .ok (.iload 5, 2) := by decide +kernel
theorem dX5_begun_40 : decode cX5_begun 40 = .ok (.i2l, 1) := by decide +kernel
theorem dX5_begun_41 : decode cX5_begun 41 = .ok (.lconst 0, 1) := by decide +kernel
theorem dX5_begun_42 : decode cX5_begun 42 = .ok (.ldc2_w 184, 3) := by decide +kernel
theorem dX5_begun_45 : decode cX5_begun 45 = .ok (.invokestatic 65, 3) := by decide +kernel
theorem dX5_begun_48 : decode cX5_begun 48 = .ok (.ifCond .eq 16, 3) := by decide +kernel
theorem dX5_begun_51 : decode cX5_begun 51 = .ok (.iload 6, 2) := by decide +kernel
theorem dX5_begun_53 : decode cX5_begun 53 = .ok (.i2l, 1) := by decide +kernel
theorem dX5_begun_54 : decode cX5_begun 54 = .ok (.lconst 0, 1) := by decide +kernel
theorem dX5_begun_55 : decode cX5_begun 55 = .ok (.ldc2_w 123, 3) := by decide +kernel
theorem dX5_begun_58 : decode cX5_begun 58 = .ok (.invokestatic 65, 3) := by decide +kernel
theorem dX5_begun_61 : decode cX5_begun 61 = .ok (.ifCond .ne 10, 3) := by decide +kernel
theorem dX5_begun_64 : decode cX5_begun 64 = .ok (.aload_n 0, 1) := by decide +kernel
theorem dX5_begun_65 : decode cX5_begun 65 = .ok (.bipush (-2), 2) := by decide +kernel
theorem dX5_begun_67 : decode cX5_begun 67 = .ok (.invokevirtual 120, 3) := by decide +kernel
theorem dX5_begun_70 : decode cX5_begun 70 = .ok (.ireturn, 1) := by decide +kernel
theorem dX5_begun_71 : decode cX5_begun 71 = .ok (.aload_n 0, 1) := by decide +kernel
theorem dX5_begun_72 : decode cX5_begun 72 = .ok (.getfield 62, 3) := by decide +kernel
theorem dX5_begun_75 : decode cX5_begun 75 = .ok (.ifCond .ne 10, 3) := by decide +kernel
theorem dX5_begun_78 : decode cX5_begun 78 = .ok (.aload_n 0, 1) := by decide +kernel
theorem dX5_begun_79 : decode cX5_begun 79 = .ok (.bipush (-3), 2) := by decide +kernel
theorem dX5_begun_81 : decode cX5_begun 81 = .ok (.invokevirtual 120, 3) := by decide +kernel
theorem dX5_begun_84 : decode cX5_begun 84 = .ok (.ireturn, 1) := by decide +kernel
theorem dX5_begun_85 : decode cX5_begun 85 = .ok (.aload_n 0, 1) := by decide +kernel
theorem dX5_begun_86 : decode cX5_begun 86 = .ok (.iload_n 1, 1) := by decide +kernel
theorem dX5_begun_87 : decode cX5_begun 87 = .ok (.iload_n 2, 1) := by decide +kernel
theorem dX5_begun_88 : decode cX5_begun 88 = .ok (.iload_n 3, 1) := by decide +kernel
theorem dX5_begun_89 : decode cX5_begun 89 = .ok (.iload 4, 2) := by decide +kernel
theorem dX5_begun_91 : decode cX5_begun 91 = .ok (.aload_n 0, 1) := by decide +kernel
theorem dX5_begun_92 : decode cX5_begun 92 = .ok (.getfield 62, 3) := by decide +kernel
theorem dX5_begun_95 : decode cX5_begun 95 = .ok (.imul, 1) := by decide +kernel
theorem dX5_begun_96 : decode cX5_begun 96 = .ok (.i2l, 1) := by decide +kernel
theorem dX5_begun_97 : decode cX5_begun 97 = .ok (.invokevirtual 125, 3) := by decide +kernel
theorem dX5_begun_100 : decode cX5_begun 100 = .ok (.istore 7, 2) := by decide +kernel
theorem dX5_begun_102 : decode cX5_begun 102 = .ok (.iload 7, 2) := by decide +kernel
theorem dX5_begun_104 : decode cX5_begun 104 = .ok (.ifCond .ge 8, 3) := by decide +kernel
theorem dX5_begun_107 : decode cX5_begun 107 = .ok (.iload 7, 2) := by decide +kernel
theorem dX5_begun_109 : decode cX5_begun 109 = .ok (.goto 23, 3) := by decide +kernel
theorem dX5_begun_112 : decode cX5_begun 112 = .ok (.aload_n 0, 1) := by decide +kernel
theorem dX5_begun_113 : decode cX5_begun 113 = .ok (.aload_n 0, 1) := by decide +kernel
theorem dX5_begun_114 : decode cX5_begun 114 = .ok (.bipush 60, 2) := by decide +kernel
theorem dX5_begun_116 : decode cX5_begun 116 = .ok (.iload_n 1, 1) := by decide +kernel
theorem dX5_begun_117 : decode cX5_begun 117 = .ok (.imul, 1) := by decide +kernel
theorem dX5_begun_118 : decode cX5_begun 118 = .ok (.iload_n 3, 1) := by decide +kernel
theorem dX5_begun_119 : decode cX5_begun 119 = .ok (.iadd, 1) := by decide +kernel
theorem dX5_begun_120 : decode cX5_begun 120 = .ok (.iload 4, 2) := by decide +kernel
theorem dX5_begun_122 : decode cX5_begun 122 = .ok (.iload 5, 2) := by decide +kernel
theorem dX5_begun_124 : decode cX5_begun 124 = .ok (.iload 6, 2) := by decide +kernel
theorem dX5_begun_126 : decode cX5_begun 126 = .ok (.invokevirtual 245, 3) := by decide +kernel
theorem dX5_begun_129 : decode cX5_begun 129 = .ok (.invokevirtual 120, 3) := by decide +kernel
theorem dX5_begun_132 : decode cX5_begun 132 = .ok (.ireturn, 1) := by decide +kernel
set_option maxRecDepth 20000 in
theorem tkX5_begun : ∀ q ∈ tbX5_begun, xOk (Zm false yX5_begun.name) RX5 cX5_begun 8 (some .int) pT pY q :=
  fa_c (ok_p (xg_load _ _ _) (x_iload_n dX5_begun_0 rfl)) <|
  fa_c (ok_c pT_179 pY_179 (x_callS (n := 1) rfl kw785 kw786 kw63 kw787 (by decide +kernel) dX5_begun_1)) <|
  fa_c (ok_p (xg_if _ _ _) (x_if_eq dX5_begun_4 (by decide))) <|
  fa_c (ok_p (xg_load _ _ _) (x_aload_n dX5_begun_7 rfl)) <|
  fa_c (ok_p (xg_st _ _) (x_iconst dX5_begun_8 rfl)) <|
  fa_c (ok_c pT_127 pY_127 (x_callV (n := 1) (C := RX5) (T := TX5) (N := 34) rfl rfl kw792 kw794 kw26 kw63 kw795 (by decide +kernel) dX5_begun_9)) <|
  fa_c (ok_r ⟨rfl, dX5_begun_12⟩) <|
  fa_c (ok_p (xg_load _ _ _) (x_iload_n dX5_begun_13 rfl)) <|
  fa_c (ok_p (xg_st _ _) (x_i2l dX5_begun_14)) <|
  fa_c (ok_p (xg_st _ _) (x_lconst dX5_begun_15 rfl)) <|
  fa_c (ok_p (xg_st _ _) (x_ldc2 dX5_begun_16 kw796)) <|
  fa_c (ok_c pT_122 pY_122 (x_callS (n := 3) rfl kw789 kw790 kw63 kw791 (by decide +kernel) dX5_begun_19)) <|
  fa_c (ok_p (xg_if _ _ _) (x_if_eq dX5_begun_22 (by decide))) <|
  fa_c (ok_p (xg_load _ _ _) (x_iload dX5_begun_25)) <|
  fa_c (ok_p (xg_st _ _) (x_i2l dX5_begun_27)) <|
  fa_c (ok_p (xg_st _ _) (x_lconst dX5_begun_28 rfl)) <|
  fa_c (ok_p (xg_st _ _) (x_ldc2 dX5_begun_29 kw969)) <|
  fa_c (ok_c pT_122 pY_122 (x_callS (n := 3) rfl kw789 kw790 kw63 kw791 (by decide +kernel) dX5_begun_32)) <|
  fa_c (ok_p (xg_if _ _ _) (x_if_eq dX5_begun_35 (by decide))) <|
  fa_c (ok_p (xg_load _ _ _) (x_iload dX5_begun_38)) <|
  fa_c (ok_p (xg_st _ _) (x_i2l dX5_begun_40)) <|
  fa_c (ok_p (xg_st _ _) (x_lconst dX5_begun_41 rfl)) <|
  fa_c (ok_p (xg_st _ _) (x_ldc2 dX5_begun_42 kw788)) <|
  fa_c (ok_c pT_122 pY_122 (x_callS (n := 3) rfl kw789 kw790 kw63 kw791 (by decide +kernel) dX5_begun_45)) <|
  fa_c (ok_p (xg_if _ _ _) (x_if_eq dX5_begun_48 (by decide))) <|
  fa_c (ok_p (xg_load _ _ _) (x_iload dX5_begun_51)) <|
  fa_c (ok_p (xg_st _ _) (x_i2l dX5_begun_53)) <|
  fa_c (ok_p (xg_st _ _) (x_lconst dX5_begun_54 rfl)) <|
  fa_c (ok_p (xg_st _ _) (x_ldc2 dX5_begun_55 kw796)) <|
  fa_c (ok_c pT_122 pY_122 (x_callS (n := 3) rfl kw789 kw790 kw63 kw791 (by decide +kernel) dX5_begun_58)) <|
  fa_c (ok_p (xg_if _ _ _) (x_if_ne dX5_begun_61 (by decide))) <|
  fa_c (ok_p (xg_load _ _ _) (x_aload_n dX5_begun_64 rfl)) <|
  fa_c (ok_p (xg_st _ _) (x_bipush dX5_begun_65 rfl)) <|
  fa_c (ok_c pT_127 pY_127 (x_callV (n := 1) (C := RX5) (T := TX5) (N := 34) rfl rfl kw792 kw794 kw26 kw63 kw795 (by decide +kernel) dX5_begun_67)) <|
  fa_c (ok_r ⟨rfl, dX5_begun_70⟩) <|
  fa_c (ok_p (xg_load _ _ _) (x_aload_n dX5_begun_71 rfl)) <|
  fa_c (ok_p (xg_getf _ _ _) (x_getf (C := RX5) (T := TX5) (N := 34) rfl (by decide) inX5 kw681 dX5_begun_72)) <|
  fa_c (ok_p (xg_if _ _ _) (x_if_ne dX5_begun_75 (by decide))) <|
  fa_c (ok_p (xg_load _ _ _) (x_aload_n dX5_begun_78 rfl)) <|
  fa_c (ok_p (xg_st _ _) (x_bipush dX5_begun_79 rfl)) <|
  fa_c (ok_c pT_127 pY_127 (x_callV (n := 1) (C := RX5) (T := TX5) (N := 34) rfl rfl kw792 kw794 kw26 kw63 kw795 (by decide +kernel) dX5_begun_81)) <|
  fa_c (ok_r ⟨rfl, dX5_begun_84⟩) <|
  fa_c (ok_p (xg_load _ _ _) (x_aload_n dX5_begun_85 rfl)) <|
  fa_c (ok_p (xg_load _ _ _) (x_iload_n dX5_begun_86 rfl)) <|
  fa_c (ok_p (xg_load _ _ _) (x_iload_n dX5_begun_87 rfl)) <|
  fa_c (ok_p (xg_load _ _ _) (x_iload_n dX5_begun_88 rfl)) <|
  fa_c (ok_p (xg_load _ _ _) (x_iload dX5_begun_89)) <|
  fa_c (ok_p (xg_load _ _ _) (x_aload_n dX5_begun_91 rfl)) <|
  fa_c (ok_p (xg_getf _ _ _) (x_getf (C := RX5) (T := TX5) (N := 34) rfl (by decide) inX5 kw681 dX5_begun_92)) <|
  fa_c (ok_p (xg_st _ _) (x_imul dX5_begun_95)) <|
  fa_c (ok_p (xg_st _ _) (x_i2l dX5_begun_96)) <|
  fa_c (ok_c pT_137 pY_137 (x_callV (n := 4) (C := RX5) (T := TX5) (N := 34) rfl rfl kw797 kw799 kw27 kw63 kw800 (by decide +kernel) dX5_begun_97)) <|
  fa_c (ok_p (xg_store _ _ _) (x_istore dX5_begun_100)) <|
  fa_c (ok_p (xg_load _ _ _) (x_iload dX5_begun_102)) <|
  fa_c (ok_p (xg_if _ _ _) (x_if_ge dX5_begun_104 (by decide))) <|
  fa_c (ok_p (xg_load _ _ _) (x_iload dX5_begun_107)) <|
  fa_c (ok_p (xg_st _ _) (x_goto dX5_begun_109 (by decide))) <|
  fa_c (ok_p (xg_load _ _ _) (x_aload_n dX5_begun_112 rfl)) <|
  fa_c (ok_p (xg_load _ _ _) (x_aload_n dX5_begun_113 rfl)) <|
  fa_c (ok_p (xg_st _ _) (x_bipush dX5_begun_114 rfl)) <|
  fa_c (ok_p (xg_load _ _ _) (x_iload_n dX5_begun_116 rfl)) <|
  fa_c (ok_p (xg_st _ _) (x_imul dX5_begun_117)) <|
  fa_c (ok_p (xg_load _ _ _) (x_iload_n dX5_begun_118 rfl)) <|
  fa_c (ok_p (xg_st _ _) (x_iadd dX5_begun_119)) <|
  fa_c (ok_p (xg_load _ _ _) (x_iload dX5_begun_120)) <|
  fa_c (ok_p (xg_load _ _ _) (x_iload dX5_begun_122)) <|
  fa_c (ok_p (xg_load _ _ _) (x_iload dX5_begun_124)) <|
  fa_c (ok_c pT_169 pY_169 (x_callV (n := 4) (C := RX5) (T := TX5) (N := 34) rfl rfl kw970 kw972 kw51 kw63 kw973 (by decide +kernel) dX5_begun_126)) <|
  fa_c (ok_c pT_127 pY_127 (x_callV (n := 1) (C := RX5) (T := TX5) (N := 34) rfl rfl kw792 kw794 kw26 kw63 kw795 (by decide +kernel) dX5_begun_129)) <|
  fa_c (ok_r ⟨rfl, dX5_begun_132⟩) <|
  fa_n
theorem dX5_goesOn_0 : decode cX5_goesOn 0 = .ok (.iconst 1, 1) := by decide +kernel
theorem dX5_goesOn_1 : decode cX5_goesOn 1 = .ok (.istore 4, 2) := by decide +kernel
theorem dX5_goesOn_3 : decode cX5_goesOn 3 = .ok (.iload_n 3, 1) := by decide +kernel
theorem dX5_goesOn_4 : decode cX5_goesOn 4 = .ok (.istore 5, 2) := by decide +kernel
theorem dX5_goesOn_6 : decode cX5_goesOn 6 = .ok (.iload 5, 2) := by decide +kernel
theorem dX5_goesOn_8 : decode cX5_goesOn 8 = .ok (.iload_n 2, 1) := by decide +kernel
theorem dX5_goesOn_9 : decode cX5_goesOn 9 = .ok (.if_icmp .ge 44, 3) := by decide +kernel
theorem dX5_goesOn_12 : decode cX5_goesOn 12 = .ok (.iload 4, 2) := by decide +kernel
theorem dX5_goesOn_14 : decode cX5_goesOn 14 = .ok (.ifCond .eq 30, 3) := by decide +kernel
theorem dX5_goesOn_17 : decode cX5_goesOn 17 = .ok (.aload_n 0, 1) := by decide +kernel
theorem dX5_goesOn_18 : decode cX5_goesOn 18 = .ok (.getfield 46, 3) := by decide +kernel
theorem dX5_goesOn_21 : decode cX5_goesOn 21 = .ok (.iload_n 1, 1) := by decide +kernel
theorem dX5_goesOn_22 : decode cX5_goesOn 22 = .ok (.iload 5, 2) := by decide +kernel
theorem dX5_goesOn_24 : decode cX5_goesOn 24 = .ok (.iadd, 1) := by decide +kernel
theorem dX5_goesOn_25 : decode cX5_goesOn 25 = .ok (.iaload, 1) := by decide +kernel
theorem dX5_goesOn_26 : decode cX5_goesOn 26 = .ok (.aload_n 0, 1) := by decide +kernel
theorem dX5_goesOn_27 : decode cX5_goesOn 27 = .ok (.getfield 46, 3) := by decide +kernel
theorem dX5_goesOn_30 : decode cX5_goesOn 30 = .ok (.iload_n 1, 1) := by decide +kernel
theorem dX5_goesOn_31 : decode cX5_goesOn 31 = .ok (.iload 5, 2) := by decide +kernel
theorem dX5_goesOn_33 : decode cX5_goesOn 33 = .ok (.iadd, 1) := by decide +kernel
theorem dX5_goesOn_34 : decode cX5_goesOn 34 = .ok (.iload_n 3, 1) := by decide +kernel
theorem dX5_goesOn_35 : decode cX5_goesOn 35 = .ok (.isub, 1) := by decide +kernel
theorem dX5_goesOn_36 : decode cX5_goesOn 36 = .ok (.iaload, 1) := by decide +kernel
theorem dX5_goesOn_37 : decode cX5_goesOn 37 = .ok (.if_icmp .ne 7, 3) := by decide +kernel
theorem dX5_goesOn_40 : decode cX5_goesOn 40 = .ok (.iconst 1, 1) := by decide +kernel
theorem dX5_goesOn_41 : decode cX5_goesOn 41 = .ok (.goto 4, 3) := by decide +kernel
theorem dX5_goesOn_44 : decode cX5_goesOn 44 = .ok (.iconst 0, 1) := by decide +kernel
theorem dX5_goesOn_45 : decode cX5_goesOn 45 = .ok (.istore 4, 2) := by decide +kernel
theorem dX5_goesOn_47 : decode cX5_goesOn 47 = .ok (.iinc 5 1, 3) := by decide +kernel
theorem dX5_goesOn_50 : decode cX5_goesOn 50 = .ok (.goto (-44), 3) := by decide +kernel
theorem dX5_goesOn_53 : decode cX5_goesOn 53 = .ok (.iload 4, 2) := by decide +kernel
theorem dX5_goesOn_55 : decode cX5_goesOn 55 = .ok (.ireturn, 1) := by decide +kernel
set_option maxRecDepth 20000 in
theorem tkX5_goesOn : ∀ q ∈ tbX5_goesOn, xOk (Zm false yX5_goesOn.name) RX5 cX5_goesOn 6 (some .boolean) pT pY q :=
  fa_c (ok_p (xg_st _ _) (x_iconst dX5_goesOn_0 rfl)) <|
  fa_c (ok_p (xg_store _ _ _) (x_istore dX5_goesOn_1)) <|
  fa_c (ok_p (xg_load _ _ _) (x_iload_n dX5_goesOn_3 rfl)) <|
  fa_c (ok_p (xg_store _ _ _) (x_istore dX5_goesOn_4)) <|
  fa_c (ok_p (xg_load _ _ _) (x_iload dX5_goesOn_6)) <|
  fa_c (ok_p (xg_load _ _ _) (x_iload_n dX5_goesOn_8 rfl)) <|
  fa_c (ok_p (xg_icmp _ _ _) (x_icmp_ge dX5_goesOn_9 (by decide))) <|
  fa_c (ok_p (xg_load _ _ _) (x_iload dX5_goesOn_12)) <|
  fa_c (ok_p (xg_if _ _ _) (x_if_eq dX5_goesOn_14 (by decide))) <|
  fa_c (ok_p (xg_load _ _ _) (x_aload_n dX5_goesOn_17 rfl)) <|
  fa_c (ok_p (xg_getf _ _ _) (x_getf (C := RX5) (T := TX5) (N := 34) rfl (by decide) inX5 kw709 dX5_goesOn_18)) <|
  fa_c (ok_p (xg_load _ _ _) (x_iload_n dX5_goesOn_21 rfl)) <|
  fa_c (ok_p (xg_load _ _ _) (x_iload dX5_goesOn_22)) <|
  fa_c (ok_p (xg_st _ _) (x_iadd dX5_goesOn_24)) <|
  fa_c (ok_p (xg_iald _) (x_iald dX5_goesOn_25)) <|
  fa_c (ok_p (xg_load _ _ _) (x_aload_n dX5_goesOn_26 rfl)) <|
  fa_c (ok_p (xg_getf _ _ _) (x_getf (C := RX5) (T := TX5) (N := 34) rfl (by decide) inX5 kw709 dX5_goesOn_27)) <|
  fa_c (ok_p (xg_load _ _ _) (x_iload_n dX5_goesOn_30 rfl)) <|
  fa_c (ok_p (xg_load _ _ _) (x_iload dX5_goesOn_31)) <|
  fa_c (ok_p (xg_st _ _) (x_iadd dX5_goesOn_33)) <|
  fa_c (ok_p (xg_load _ _ _) (x_iload_n dX5_goesOn_34 rfl)) <|
  fa_c (ok_p (xg_st _ _) (x_isub dX5_goesOn_35)) <|
  fa_c (ok_p (xg_iald _) (x_iald dX5_goesOn_36)) <|
  fa_c (ok_p (xg_icmp _ _ _) (x_icmp_ne dX5_goesOn_37 (by decide))) <|
  fa_c (ok_p (xg_st _ _) (x_iconst dX5_goesOn_40 rfl)) <|
  fa_c (ok_p (xg_st _ _) (x_goto dX5_goesOn_41 (by decide))) <|
  fa_c (ok_p (xg_st _ _) (x_iconst dX5_goesOn_44 rfl)) <|
  fa_c (ok_p (xg_store _ _ _) (x_istore dX5_goesOn_45)) <|
  fa_c (ok_p (xg_iinc _ _ _) (x_iinc dX5_goesOn_47 rfl)) <|
  fa_c (ok_p (xg_st _ _) (x_goto dX5_goesOn_50 (by decide))) <|
  fa_c (ok_p (xg_load _ _ _) (x_iload dX5_goesOn_53)) <|
  fa_c (ok_r ⟨rfl, dX5_goesOn_55⟩) <|
  fa_n
theorem dX5_run_0 : decode cX5_run 0 = .ok (.iload_n 1, 1) := by decide +kernel
theorem dX5_run_1 : decode cX5_run 1 = .ok (.invokestatic 116, 3) := by decide +kernel
theorem dX5_run_4 : decode cX5_run 4 = .ok (.ifCond .eq 9, 3) := by decide +kernel
theorem dX5_run_7 : decode cX5_run 7 = .ok (.aload_n 0, 1) := by decide +kernel
theorem dX5_run_8 : decode cX5_run 8 = .ok (.iconst (-1), 1) := by decide +kernel
theorem dX5_run_9 : decode cX5_run 9 = .ok (.invokevirtual 120, 3) := by decide +kernel
theorem dX5_run_12 : decode cX5_run 12 = .ok (.ireturn, 1) := by decide +kernel
theorem dX5_run_13 : decode cX5_run 13 = .ok (.iload_n 2, 1) := by decide +kernel
theorem dX5_run_14 : decode cX5_run 14 = .ok (.i2l, 1) := by decide +kernel
theorem dX5_run_15 : decode cX5_run 15 = .ok (.lconst 0, 1) := by decide +kernel
theorem dX5_run_16 : decode cX5_run 16 = .ok (.ldc2_w 123, 3) := by decide +kernel
theorem dX5_run_19 : decode cX5_run 19 = .ok (.invokestatic 65, 3) := by decide +kernel
theorem dX5_run_22 : decode cX5_run 22 = .ok (.ifCond .eq 27, 3) := by decide +kernel
theorem dX5_run_25 : decode cX5_run 25 = .ok (.iload 4, 2) := by decide +kernel
theorem dX5_run_27 : decode cX5_run 27 = .ok (.i2l, 1) := by decide +kernel
theorem dX5_run_28 : decode cX5_run 28 = .ok (.lconst 1, 1) := by decide +kernel
theorem dX5_run_29 : decode cX5_run 29 = .ok (.ldc2_w 198, 3) := by decide +kernel
theorem dX5_run_32 : decode cX5_run 32 = .ok (.invokestatic 65, 3) := by decide +kernel
theorem dX5_run_35 : decode cX5_run 35 = .ok (.ifCond .eq 14, 3) := by decide +kernel
theorem dX5_run_38 : decode cX5_run 38 = .ok (.iload 5, 2) := by decide +kernel
theorem dX5_run_40 : decode cX5_run 40 = .ok (.i2l, 1) := by decide +kernel
theorem dX5_run_41 : decode cX5_run 41 = .ok (.lconst 0, 1) := by decide +kernel
theorem dX5_run_42 : decode cX5_run 42 = .ok (.lconst 1, 1) := by decide +kernel
theorem dX5_run_43 : decode cX5_run 43 = .ok (.invokestatic 65, 3) := by decide +kernel
theorem dX5_run_46 : decode cX5_run 46 = .ok (.ifCond .ne 10, 3) := by decide +kernel
theorem dX5_run_49 : decode cX5_run 49 = .ok (.aload_n 0, 1) := by decide +kernel
theorem dX5_run_50 : decode cX5_run 50 = .ok (.bipush (-2), 2) := by decide +kernel
theorem dX5_run_52 : decode cX5_run 52 = .ok (.invokevirtual 120, 3) := by decide +kernel
theorem dX5_run_55 : decode cX5_run 55 = .ok (.ireturn, 1) := by decide +kernel
theorem dX5_run_56 : decode cX5_run 56 = .ok (.aload_n 0, 1) := by decide +kernel
theorem dX5_run_57 : decode cX5_run 57 = .ok (.iload_n 1, 1) := by decide +kernel
theorem dX5_run_58 : decode cX5_run 58 = .ok (.iload_n 2, 1) := by decide +kernel
theorem dX5_run_59 : decode cX5_run 59 = .ok (.iload_n 3, 1) := by decide +kernel
theorem dX5_run_60 : decode cX5_run 60 = .ok (.iload 4, 2) := by decide +kernel
theorem dX5_run_62 : decode cX5_run 62 = .ok (.i2l, 1) := by decide +kernel
theorem dX5_run_63 : decode cX5_run 63 = .ok (.invokevirtual 125, 3) := by decide +kernel
theorem dX5_run_66 : decode cX5_run 66 = .ok (.istore 6, 2) := by decide +kernel
theorem dX5_run_68 : decode cX5_run 68 = .ok (.iload 6, 2) := by decide +kernel
theorem dX5_run_70 : decode cX5_run 70 = .ok (.ifCond .ge 6, 3) := by decide +kernel
theorem dX5_run_73 : decode cX5_run 73 = .ok (.iload 6, 2) := by decide +kernel
theorem dX5_run_75 : decode cX5_run 75 = .ok (.ireturn, 1) := by decide +kernel
theorem dX5_run_76 : decode cX5_run 76 = .ok (.iconst 1, 1) := by decide +kernel
theorem dX5_run_77 : decode cX5_run 77 = .ok (.istore 7, 2) := by decide +kernel
theorem dX5_run_79 : decode cX5_run 79 = .ok (.aload_n 0, 1) := by decide +kernel
theorem dX5_run_80 : decode cX5_run 80 = .ok (.bipush 60, 2) := by decide +kernel
theorem dX5_run_82 : decode cX5_run 82 = .ok (.iload_n 1, 1) := by decide +kernel
theorem dX5_run_83 : decode cX5_run 83 = .ok (.imul, 1) := by decide +kernel
theorem dX5_run_84 : decode cX5_run 84 = .ok (.iload_n 3, 1) := by decide +kernel
theorem dX5_run_85 : decode cX5_run 85 = .ok (.iadd, 1) := by decide +kernel
theorem dX5_run_86 : decode cX5_run 86 = .ok (.iload 4, 2) := by decide +kernel
theorem dX5_run_88 : decode cX5_run 88 = .ok (.iload 7, 2) := by decide +kernel
theorem dX5_run_90 : decode cX5_run 90 = .ok (.invokevirtual 249, 3) := by decide +kernel
theorem dX5_run_93 : decode cX5_run 93 = .ok (.ifCond .ne 9, 3) := by decide +kernel
theorem dX5_run_96 : decode cX5_run 96 = .ok (.iinc 7 1, 3) := by decide +kernel
theorem dX5_run_99 : decode cX5_run 99 = .ok (.goto (-20), 3) := by decide +kernel
theorem dX5_run_102 : decode cX5_run 102 = .ok (.aload_n 0, 1) := by decide +kernel
theorem dX5_run_103 : decode cX5_run 103 = .ok (.iload 5, 2) := by decide +kernel
theorem dX5_run_105 : decode cX5_run 105 = .ok (.ifCond .ne 8, 3) := by decide +kernel
theorem dX5_run_108 : decode cX5_run 108 = .ok (.iload 7, 2) := by decide +kernel
theorem dX5_run_110 : decode cX5_run 110 = .ok (.goto 20, 3) := by decide +kernel
theorem dX5_run_113 : decode cX5_run 113 = .ok (.aload_n 0, 1) := by decide +kernel
theorem dX5_run_114 : decode cX5_run 114 = .ok (.getfield 46, 3) := by decide +kernel
theorem dX5_run_117 : decode cX5_run 117 = .ok (.bipush 60, 2) := by decide +kernel
theorem dX5_run_119 : decode cX5_run 119 = .ok (.iload_n 1, 1) := by decide +kernel
theorem dX5_run_120 : decode cX5_run 120 = .ok (.imul, 1) := by decide +kernel
theorem dX5_run_121 : decode cX5_run 121 = .ok (.iload_n 3, 1) := by decide +kernel
theorem dX5_run_122 : decode cX5_run 122 = .ok (.iadd, 1) := by decide +kernel
theorem dX5_run_123 : decode cX5_run 123 = .ok (.iload 4, 2) := by decide +kernel
theorem dX5_run_125 : decode cX5_run 125 = .ok (.iadd, 1) := by decide +kernel
theorem dX5_run_126 : decode cX5_run 126 = .ok (.iload 7, 2) := by decide +kernel
theorem dX5_run_128 : decode cX5_run 128 = .ok (.isub, 1) := by decide +kernel
theorem dX5_run_129 : decode cX5_run 129 = .ok (.iaload, 1) := by decide +kernel
theorem dX5_run_130 : decode cX5_run 130 = .ok (.invokevirtual 120, 3) := by decide +kernel
theorem dX5_run_133 : decode cX5_run 133 = .ok (.ireturn, 1) := by decide +kernel
set_option maxRecDepth 20000 in
theorem tkX5_run : ∀ q ∈ tbX5_run, xOk (Zm false yX5_run.name) RX5 cX5_run 8 (some .int) pT pY q :=
  fa_c (ok_p (xg_load _ _ _) (x_iload_n dX5_run_0 rfl)) <|
  fa_c (ok_c pT_179 pY_179 (x_callS (n := 1) rfl kw785 kw786 kw63 kw787 (by decide +kernel) dX5_run_1)) <|
  fa_c (ok_p (xg_if _ _ _) (x_if_eq dX5_run_4 (by decide))) <|
  fa_c (ok_p (xg_load _ _ _) (x_aload_n dX5_run_7 rfl)) <|
  fa_c (ok_p (xg_st _ _) (x_iconst dX5_run_8 rfl)) <|
  fa_c (ok_c pT_127 pY_127 (x_callV (n := 1) (C := RX5) (T := TX5) (N := 34) rfl rfl kw792 kw794 kw26 kw63 kw795 (by decide +kernel) dX5_run_9)) <|
  fa_c (ok_r ⟨rfl, dX5_run_12⟩) <|
  fa_c (ok_p (xg_load _ _ _) (x_iload_n dX5_run_13 rfl)) <|
  fa_c (ok_p (xg_st _ _) (x_i2l dX5_run_14)) <|
  fa_c (ok_p (xg_st _ _) (x_lconst dX5_run_15 rfl)) <|
  fa_c (ok_p (xg_st _ _) (x_ldc2 dX5_run_16 kw796)) <|
  fa_c (ok_c pT_122 pY_122 (x_callS (n := 3) rfl kw789 kw790 kw63 kw791 (by decide +kernel) dX5_run_19)) <|
  fa_c (ok_p (xg_if _ _ _) (x_if_eq dX5_run_22 (by decide))) <|
  fa_c (ok_p (xg_load _ _ _) (x_iload dX5_run_25)) <|
  fa_c (ok_p (xg_st _ _) (x_i2l dX5_run_27)) <|
  fa_c (ok_p (xg_st _ _) (x_lconst dX5_run_28 rfl)) <|
  fa_c (ok_p (xg_st _ _) (x_ldc2 dX5_run_29 kw909)) <|
  fa_c (ok_c pT_122 pY_122 (x_callS (n := 3) rfl kw789 kw790 kw63 kw791 (by decide +kernel) dX5_run_32)) <|
  fa_c (ok_p (xg_if _ _ _) (x_if_eq dX5_run_35 (by decide))) <|
  fa_c (ok_p (xg_load _ _ _) (x_iload dX5_run_38)) <|
  fa_c (ok_p (xg_st _ _) (x_i2l dX5_run_40)) <|
  fa_c (ok_p (xg_st _ _) (x_lconst dX5_run_41 rfl)) <|
  fa_c (ok_p (xg_st _ _) (x_lconst dX5_run_42 rfl)) <|
  fa_c (ok_c pT_122 pY_122 (x_callS (n := 3) rfl kw789 kw790 kw63 kw791 (by decide +kernel) dX5_run_43)) <|
  fa_c (ok_p (xg_if _ _ _) (x_if_ne dX5_run_46 (by decide))) <|
  fa_c (ok_p (xg_load _ _ _) (x_aload_n dX5_run_49 rfl)) <|
  fa_c (ok_p (xg_st _ _) (x_bipush dX5_run_50 rfl)) <|
  fa_c (ok_c pT_127 pY_127 (x_callV (n := 1) (C := RX5) (T := TX5) (N := 34) rfl rfl kw792 kw794 kw26 kw63 kw795 (by decide +kernel) dX5_run_52)) <|
  fa_c (ok_r ⟨rfl, dX5_run_55⟩) <|
  fa_c (ok_p (xg_load _ _ _) (x_aload_n dX5_run_56 rfl)) <|
  fa_c (ok_p (xg_load _ _ _) (x_iload_n dX5_run_57 rfl)) <|
  fa_c (ok_p (xg_load _ _ _) (x_iload_n dX5_run_58 rfl)) <|
  fa_c (ok_p (xg_load _ _ _) (x_iload_n dX5_run_59 rfl)) <|
  fa_c (ok_p (xg_load _ _ _) (x_iload dX5_run_60)) <|
  fa_c (ok_p (xg_st _ _) (x_i2l dX5_run_62)) <|
  fa_c (ok_c pT_137 pY_137 (x_callV (n := 4) (C := RX5) (T := TX5) (N := 34) rfl rfl kw797 kw799 kw27 kw63 kw800 (by decide +kernel) dX5_run_63)) <|
  fa_c (ok_p (xg_store _ _ _) (x_istore dX5_run_66)) <|
  fa_c (ok_p (xg_load _ _ _) (x_iload dX5_run_68)) <|
  fa_c (ok_p (xg_if _ _ _) (x_if_ge dX5_run_70 (by decide))) <|
  fa_c (ok_p (xg_load _ _ _) (x_iload dX5_run_73)) <|
  fa_c (ok_r ⟨rfl, dX5_run_75⟩) <|
  fa_c (ok_p (xg_st _ _) (x_iconst dX5_run_76 rfl)) <|
  fa_c (ok_p (xg_store _ _ _) (x_istore dX5_run_77)) <|
  fa_c (ok_p (xg_clr _ (xg_load _ _ _)) (x_clr _ (x_aload_n dX5_run_79 rfl))) <|
  fa_c (ok_p (xg_st _ _) (x_bipush dX5_run_80 rfl)) <|
  fa_c (ok_p (xg_load _ _ _) (x_iload_n dX5_run_82 rfl)) <|
  fa_c (ok_p (xg_st _ _) (x_imul dX5_run_83)) <|
  fa_c (ok_p (xg_load _ _ _) (x_iload_n dX5_run_84 rfl)) <|
  fa_c (ok_p (xg_st _ _) (x_iadd dX5_run_85)) <|
  fa_c (ok_p (xg_load _ _ _) (x_iload dX5_run_86)) <|
  fa_c (ok_p (xg_load _ _ _) (x_iload dX5_run_88)) <|
  fa_c (ok_c pT_171 pY_171 (x_callV (n := 3) (C := RX5) (T := TX5) (N := 34) rfl rfl kw982 kw984 kw53 kw63 kw985 (by decide +kernel) dX5_run_90)) <|
  fa_c (ok_p (xg_if _ _ _) (x_if_ne dX5_run_93 (by decide))) <|
  fa_c (ok_p (xg_iinc _ _ _) (x_iinc dX5_run_96 rfl)) <|
  fa_c (ok_p (xg_st _ _) (x_goto dX5_run_99 (by decide))) <|
  fa_c (ok_p (xg_load _ _ _) (x_aload_n dX5_run_102 rfl)) <|
  fa_c (ok_p (xg_load _ _ _) (x_iload dX5_run_103)) <|
  fa_c (ok_p (xg_if _ _ _) (x_if_ne dX5_run_105 (by decide))) <|
  fa_c (ok_p (xg_load _ _ _) (x_iload dX5_run_108)) <|
  fa_c (ok_p (xg_st _ _) (x_goto dX5_run_110 (by decide))) <|
  fa_c (ok_p (xg_load _ _ _) (x_aload_n dX5_run_113 rfl)) <|
  fa_c (ok_p (xg_getf _ _ _) (x_getf (C := RX5) (T := TX5) (N := 34) rfl (by decide) inX5 kw709 dX5_run_114)) <|
  fa_c (ok_p (xg_st _ _) (x_bipush dX5_run_117 rfl)) <|
  fa_c (ok_p (xg_load _ _ _) (x_iload_n dX5_run_119 rfl)) <|
  fa_c (ok_p (xg_st _ _) (x_imul dX5_run_120)) <|
  fa_c (ok_p (xg_load _ _ _) (x_iload_n dX5_run_121 rfl)) <|
  fa_c (ok_p (xg_st _ _) (x_iadd dX5_run_122)) <|
  fa_c (ok_p (xg_load _ _ _) (x_iload dX5_run_123)) <|
  fa_c (ok_p (xg_st _ _) (x_iadd dX5_run_125)) <|
  fa_c (ok_p (xg_load _ _ _) (x_iload dX5_run_126)) <|
  fa_c (ok_p (xg_st _ _) (x_isub dX5_run_128)) <|
  fa_c (ok_p (xg_iald _) (x_iald dX5_run_129)) <|
  fa_c (ok_c pT_127 pY_127 (x_callV (n := 1) (C := RX5) (T := TX5) (N := 34) rfl rfl kw792 kw794 kw26 kw63 kw795 (by decide +kernel) dX5_run_130)) <|
  fa_c (ok_r ⟨rfl, dX5_run_133⟩) <|
  fa_n
theorem dX5_reading_0 : decode cX5_reading 0 = .ok (.aload_n 0, 1) := by decide +kernel
theorem dX5_reading_1 : decode cX5_reading 1 = .ok (.iload_n 1, 1) := by decide +kernel
theorem dX5_reading_2 : decode cX5_reading 2 = .ok (.invokevirtual 160, 3) := by decide +kernel
theorem dX5_reading_5 : decode cX5_reading 5 = .ok (.ifCond .eq 5, 3) := by decide +kernel
theorem dX5_reading_8 : decode cX5_reading 8 = .ok (.iconst (-1), 1) := by decide +kernel
theorem dX5_reading_9 : decode cX5_reading 9 = .ok (.ireturn, 1) := by decide +kernel
theorem dX5_reading_10 : decode cX5_reading 10 = .ok (.iload_n 2, 1) := by decide +kernel
theorem dX5_reading_11 : decode cX5_reading 11 = .ok (.i2l, 1) := by decide +kernel
theorem dX5_reading_12 : decode cX5_reading 12 = .ok (.lconst 0, 1) := by decide +kernel
theorem dX5_reading_13 : decode cX5_reading 13 = .ok (.ldc2_w 169, 3) := by decide +kernel
theorem dX5_reading_16 : decode cX5_reading 16 = .ok (.invokestatic 65, 3) := by decide +kernel
theorem dX5_reading_19 : decode cX5_reading 19 = .ok (.ifCond .eq 15, 3) := by decide +kernel
theorem dX5_reading_22 : decode cX5_reading 22 = .ok (.iload_n 3, 1) := by decide +kernel
theorem dX5_reading_23 : decode cX5_reading 23 = .ok (.i2l, 1) := by decide +kernel
theorem dX5_reading_24 : decode cX5_reading 24 = .ok (.lconst 0, 1) := by decide +kernel
theorem dX5_reading_25 : decode cX5_reading 25 = .ok (.ldc2_w 252, 3) := by decide +kernel
theorem dX5_reading_28 : decode cX5_reading 28 = .ok (.invokestatic 65, 3) := by decide +kernel
theorem dX5_reading_31 : decode cX5_reading 31 = .ok (.ifCond .ne 6, 3) := by decide +kernel
theorem dX5_reading_34 : decode cX5_reading 34 = .ok (.bipush (-2), 2) := by decide +kernel
theorem dX5_reading_36 : decode cX5_reading 36 = .ok (.ireturn, 1) := by decide +kernel
theorem dX5_reading_37 : decode cX5_reading 37 = .ok (.aload_n 0, 1) := by decide +kernel
theorem dX5_reading_38 : decode cX5_reading 38 = .ok (.getfield 151, 3) := by decide +kernel
theorem dX5_reading_41 : decode cX5_reading 41 = .ok (.bipush 8, 2) := by decide +kernel
theorem dX5_reading_43 : decode cX5_reading 43 = .ok (.if_icmp .ne 6, 3) := by decide +kernel
theorem dX5_reading_46 : decode cX5_reading 46 = .ok (.bipush (-4), 2) := by decide +kernel
theorem dX5_reading_48 : decode cX5_reading 48 = .ok (.ireturn, 1) := by decide +kernel
theorem dX5_reading_49 : decode cX5_reading 49 = .ok (.aload_n 0, 1) := by decide +kernel
theorem dX5_reading_50 : decode cX5_reading 50 = .ok (.getfield 31, 3) := by decide +kernel
theorem dX5_reading_53 : decode cX5_reading 53 = .ok (.aload_n 0, 1) := by decide +kernel
theorem dX5_reading_54 : decode cX5_reading 54 = .ok (.getfield 151, 3) := by decide +kernel
theorem dX5_reading_57 : decode cX5_reading 57 = .ok (.iload_n 1, 1) := by decide +kernel
theorem dX5_reading_58 : decode cX5_reading 58 = .ok (.iastore, 1) := by decide +kernel
theorem dX5_reading_59 : decode cX5_reading 59 = .ok (.aload_n 0, 1) := by decide +kernel
theorem dX5_reading_60 : decode cX5_reading 60 = .ok (.getfield 34, 3) := by decide +kernel
theorem dX5_reading_63 : decode cX5_reading 63 = .ok (.aload_n 0, 1) := by decide +kernel
theorem dX5_reading_64 : decode cX5_reading 64 = .ok (.getfield 151, 3) := by decide +kernel
theorem dX5_reading_67 : decode cX5_reading 67 = .ok (.iload_n 2, 1) := by decide +kernel
theorem dX5_reading_68 : decode cX5_reading 68 = .ok (.iastore, 1) := by decide +kernel
theorem dX5_reading_69 : decode cX5_reading 69 = .ok (.aload_n 0, 1) := by decide +kernel
theorem dX5_reading_70 : decode cX5_reading 70 = .ok (.getfield 37, 3) := by decide +kernel
theorem dX5_reading_73 : decode cX5_reading 73 = .ok (.aload_n 0, 1) := by decide +kernel
theorem dX5_reading_74 : decode cX5_reading 74 = .ok (.getfield 151, 3) := by decide +kernel
theorem dX5_reading_77 : decode cX5_reading 77 = .ok (.iload_n 3, 1) := by decide +kernel
theorem dX5_reading_78 : decode cX5_reading 78 = .ok (.iastore, 1) := by decide +kernel
theorem dX5_reading_79 : decode cX5_reading 79 = .ok (.aload_n 0, 1) := by decide +kernel
theorem dX5_reading_80 : decode cX5_reading 80 = .ok (.dup, 1) := by decide +kernel
theorem dX5_reading_81 : decode cX5_reading 81 = .ok (.getfield 151, 3) := by decide +kernel
theorem dX5_reading_84 : decode cX5_reading 84 = .ok (.iconst 1, 1) := by decide +kernel
theorem dX5_reading_85 : decode cX5_reading 85 = .ok (.iadd, 1) := by decide +kernel
theorem dX5_reading_86 : decode cX5_reading 86 = .ok (.putfield 151, 3) := by decide +kernel
theorem dX5_reading_89 : decode cX5_reading 89 = .ok (.aload_n 0, 1) := by decide +kernel
theorem dX5_reading_90 : decode cX5_reading 90 = .ok (.getfield 151, 3) := by decide +kernel
theorem dX5_reading_93 : decode cX5_reading 93 = .ok (.iconst 1, 1) := by decide +kernel
theorem dX5_reading_94 : decode cX5_reading 94 = .ok (.isub, 1) := by decide +kernel
theorem dX5_reading_95 : decode cX5_reading 95 = .ok (.ireturn, 1) := by decide +kernel
set_option maxRecDepth 20000 in
theorem tkX5_reading : ∀ q ∈ tbX5_reading, xOk (Zm false yX5_reading.name) RX5 cX5_reading 4 (some .int) pT pY q :=
  fa_c (ok_p (xg_load _ _ _) (x_aload_n dX5_reading_0 rfl)) <|
  fa_c (ok_p (xg_load _ _ _) (x_iload_n dX5_reading_1 rfl)) <|
  fa_c (ok_c pT_130 pY_130 (x_callV (n := 1) (C := RX5) (T := TX5) (N := 34) rfl rfl kw843 kw845 kw36 kw63 kw846 (by decide +kernel) dX5_reading_2)) <|
  fa_c (ok_p (xg_if _ _ _) (x_if_eq dX5_reading_5 (by decide))) <|
  fa_c (ok_p (xg_st _ _) (x_iconst dX5_reading_8 rfl)) <|
  fa_c (ok_r ⟨rfl, dX5_reading_9⟩) <|
  fa_c (ok_p (xg_load _ _ _) (x_iload_n dX5_reading_10 rfl)) <|
  fa_c (ok_p (xg_st _ _) (x_i2l dX5_reading_11)) <|
  fa_c (ok_p (xg_st _ _) (x_lconst dX5_reading_12 rfl)) <|
  fa_c (ok_p (xg_st _ _) (x_ldc2 dX5_reading_13 kw863)) <|
  fa_c (ok_c pT_122 pY_122 (x_callS (n := 3) rfl kw789 kw790 kw63 kw791 (by decide +kernel) dX5_reading_16)) <|
  fa_c (ok_p (xg_if _ _ _) (x_if_eq dX5_reading_19 (by decide))) <|
  fa_c (ok_p (xg_load _ _ _) (x_iload_n dX5_reading_22 rfl)) <|
  fa_c (ok_p (xg_st _ _) (x_i2l dX5_reading_23)) <|
  fa_c (ok_p (xg_st _ _) (x_lconst dX5_reading_24 rfl)) <|
  fa_c (ok_p (xg_st _ _) (x_ldc2 dX5_reading_25 kw990)) <|
  fa_c (ok_c pT_122 pY_122 (x_callS (n := 3) rfl kw789 kw790 kw63 kw791 (by decide +kernel) dX5_reading_28)) <|
  fa_c (ok_p (xg_if _ _ _) (x_if_ne dX5_reading_31 (by decide))) <|
  fa_c (ok_p (xg_st _ _) (x_bipush dX5_reading_34 rfl)) <|
  fa_c (ok_r ⟨rfl, dX5_reading_36⟩) <|
  fa_c (ok_p (xg_load _ _ _) (x_aload_n dX5_reading_37 rfl)) <|
  fa_c (ok_p (xg_getf _ _ _) (x_getf (C := RX5) (T := TX5) (N := 34) rfl (by decide) inX5 kw703 dX5_reading_38)) <|
  fa_c (ok_p (xg_st _ _) (x_bipush dX5_reading_41 rfl)) <|
  fa_c (ok_p (xg_icmp _ _ _) (x_icmp_ne dX5_reading_43 (by decide))) <|
  fa_c (ok_p (xg_st _ _) (x_bipush dX5_reading_46 rfl)) <|
  fa_c (ok_r ⟨rfl, dX5_reading_48⟩) <|
  fa_c (ok_p (xg_load _ _ _) (x_aload_n dX5_reading_49 rfl)) <|
  fa_c (ok_p (xg_getf _ _ _) (x_getf (C := RX5) (T := TX5) (N := 34) rfl (by decide) inX5 kw704 dX5_reading_50)) <|
  fa_c (ok_p (xg_load _ _ _) (x_aload_n dX5_reading_53 rfl)) <|
  fa_c (ok_p (xg_getf _ _ _) (x_getf (C := RX5) (T := TX5) (N := 34) rfl (by decide) inX5 kw703 dX5_reading_54)) <|
  fa_c (ok_p (xg_load _ _ _) (x_iload_n dX5_reading_57 rfl)) <|
  fa_c (ok_p (xg_iast _) (x_iast dX5_reading_58)) <|
  fa_c (ok_p (xg_load _ _ _) (x_aload_n dX5_reading_59 rfl)) <|
  fa_c (ok_p (xg_getf _ _ _) (x_getf (C := RX5) (T := TX5) (N := 34) rfl (by decide) inX5 kw705 dX5_reading_60)) <|
  fa_c (ok_p (xg_load _ _ _) (x_aload_n dX5_reading_63 rfl)) <|
  fa_c (ok_p (xg_getf _ _ _) (x_getf (C := RX5) (T := TX5) (N := 34) rfl (by decide) inX5 kw703 dX5_reading_64)) <|
  fa_c (ok_p (xg_load _ _ _) (x_iload_n dX5_reading_67 rfl)) <|
  fa_c (ok_p (xg_iast _) (x_iast dX5_reading_68)) <|
  fa_c (ok_p (xg_load _ _ _) (x_aload_n dX5_reading_69 rfl)) <|
  fa_c (ok_p (xg_getf _ _ _) (x_getf (C := RX5) (T := TX5) (N := 34) rfl (by decide) inX5 kw706 dX5_reading_70)) <|
  fa_c (ok_p (xg_load _ _ _) (x_aload_n dX5_reading_73 rfl)) <|
  fa_c (ok_p (xg_getf _ _ _) (x_getf (C := RX5) (T := TX5) (N := 34) rfl (by decide) inX5 kw703 dX5_reading_74)) <|
  fa_c (ok_p (xg_load _ _ _) (x_iload_n dX5_reading_77 rfl)) <|
  fa_c (ok_p (xg_iast _) (x_iast dX5_reading_78)) <|
  fa_c (ok_p (xg_load _ _ _) (x_aload_n dX5_reading_79 rfl)) <|
  fa_c (ok_p (xg_st _ _) (x_dup dX5_reading_80)) <|
  fa_c (ok_p (xg_getf _ _ _) (x_getf (C := RX5) (T := TX5) (N := 34) rfl (by decide) inX5 kw703 dX5_reading_81)) <|
  fa_c (ok_p (xg_st _ _) (x_iconst dX5_reading_84 rfl)) <|
  fa_c (ok_p (xg_st _ _) (x_iadd dX5_reading_85)) <|
  fa_c (ok_p (xg_putf _ _ _ _) (x_putfof (C := RX5) (T := TX5) (N := 34) tyX5 tyX5_ok nmX5 rfl (by decide) inX5 kw703 dX5_reading_86 (tyX5_ok 25 (by decide)) (fun _ _ _ _ _ _ => Or.inl rfl))) <|
  fa_c (ok_p (xg_load _ _ _) (x_aload_n dX5_reading_89 rfl)) <|
  fa_c (ok_p (xg_getf _ _ _) (x_getf (C := RX5) (T := TX5) (N := 34) rfl (by decide) inX5 kw703 dX5_reading_90)) <|
  fa_c (ok_p (xg_st _ _) (x_iconst dX5_reading_93 rfl)) <|
  fa_c (ok_p (xg_st _ _) (x_isub dX5_reading_94)) <|
  fa_c (ok_r ⟨rfl, dX5_reading_95⟩) <|
  fa_n
theorem dX5_back_0 : decode cX5_back 0 = .ok (.iload_n 1, 1) := by decide +kernel
theorem dX5_back_1 : decode cX5_back 1 = .ok (.i2l, 1) := by decide +kernel
theorem dX5_back_2 : decode cX5_back 2 = .ok (.lconst 0, 1) := by decide +kernel
theorem dX5_back_3 : decode cX5_back 3 = .ok (.aload_n 0, 1) := by decide +kernel
theorem dX5_back_4 : decode cX5_back 4 = .ok (.getfield 151, 3) := by decide +kernel
theorem dX5_back_7 : decode cX5_back 7 = .ok (.i2l, 1) := by decide +kernel
theorem dX5_back_8 : decode cX5_back 8 = .ok (.invokestatic 65, 3) := by decide +kernel
theorem dX5_back_11 : decode cX5_back 11 = .ok (.ifCond .ne 6, 3) := by decide +kernel
theorem dX5_back_14 : decode cX5_back 14 = .ok (.bipush (-2), 2) := by decide +kernel
theorem dX5_back_16 : decode cX5_back 16 = .ok (.ireturn, 1) := by decide +kernel
theorem dX5_back_17 : decode cX5_back 17 = .ok (.aload_n 0, 1) := by decide +kernel
theorem dX5_back_18 : decode cX5_back 18 = .ok (.dup, 1) := by decide +kernel
theorem dX5_back_19 : decode cX5_back 19 = .ok (.getfield 151, 3) := by decide +kernel
theorem dX5_back_22 : decode cX5_back 22 = .ok (.iload_n 1, 1) := by decide +kernel
theorem dX5_back_23 : decode cX5_back 23 = .ok (.isub, 1) := by decide +kernel
theorem dX5_back_24 : decode cX5_back 24 = .ok (.putfield 151, 3) := by decide +kernel
theorem dX5_back_27 : decode cX5_back 27 = .ok (.aload_n 0, 1) := by decide +kernel
theorem dX5_back_28 : decode cX5_back 28 = .ok (.getfield 151, 3) := by decide +kernel
theorem dX5_back_31 : decode cX5_back 31 = .ok (.ireturn, 1) := by decide +kernel
set_option maxRecDepth 20000 in
theorem tkX5_back : ∀ q ∈ tbX5_back, xOk (Zm false yX5_back.name) RX5 cX5_back 2 (some .int) pT pY q :=
  fa_c (ok_p (xg_load _ _ _) (x_iload_n dX5_back_0 rfl)) <|
  fa_c (ok_p (xg_st _ _) (x_i2l dX5_back_1)) <|
  fa_c (ok_p (xg_st _ _) (x_lconst dX5_back_2 rfl)) <|
  fa_c (ok_p (xg_load _ _ _) (x_aload_n dX5_back_3 rfl)) <|
  fa_c (ok_p (xg_getf _ _ _) (x_getf (C := RX5) (T := TX5) (N := 34) rfl (by decide) inX5 kw703 dX5_back_4)) <|
  fa_c (ok_p (xg_st _ _) (x_i2l dX5_back_7)) <|
  fa_c (ok_c pT_122 pY_122 (x_callS (n := 3) rfl kw789 kw790 kw63 kw791 (by decide +kernel) dX5_back_8)) <|
  fa_c (ok_p (xg_if _ _ _) (x_if_ne dX5_back_11 (by decide))) <|
  fa_c (ok_p (xg_st _ _) (x_bipush dX5_back_14 rfl)) <|
  fa_c (ok_r ⟨rfl, dX5_back_16⟩) <|
  fa_c (ok_p (xg_load _ _ _) (x_aload_n dX5_back_17 rfl)) <|
  fa_c (ok_p (xg_st _ _) (x_dup dX5_back_18)) <|
  fa_c (ok_p (xg_getf _ _ _) (x_getf (C := RX5) (T := TX5) (N := 34) rfl (by decide) inX5 kw703 dX5_back_19)) <|
  fa_c (ok_p (xg_load _ _ _) (x_iload_n dX5_back_22 rfl)) <|
  fa_c (ok_p (xg_st _ _) (x_isub dX5_back_23)) <|
  fa_c (ok_p (xg_putf _ _ _ _) (x_putfof (C := RX5) (T := TX5) (N := 34) tyX5 tyX5_ok nmX5 rfl (by decide) inX5 kw703 dX5_back_24 (tyX5_ok 25 (by decide)) (fun _ _ _ _ _ _ => Or.inl rfl))) <|
  fa_c (ok_p (xg_load _ _ _) (x_aload_n dX5_back_27 rfl)) <|
  fa_c (ok_p (xg_getf _ _ _) (x_getf (C := RX5) (T := TX5) (N := 34) rfl (by decide) inX5 kw703 dX5_back_28)) <|
  fa_c (ok_r ⟨rfl, dX5_back_31⟩) <|
  fa_n
theorem dX5_areSo_0 : decode cX5_areSo 0 = .ok (.iconst 1, 1) := by decide +kernel
theorem dX5_areSo_1 : decode cX5_areSo 1 = .ok (.istore_n 1, 1) := by decide +kernel
theorem dX5_areSo_2 : decode cX5_areSo 2 = .ok (.iconst 0, 1) := by decide +kernel
theorem dX5_areSo_3 : decode cX5_areSo 3 = .ok (.istore_n 2, 1) := by decide +kernel
theorem dX5_areSo_4 : decode cX5_areSo 4 = .ok (.iload_n 2, 1) := by decide +kernel
theorem dX5_areSo_5 : decode cX5_areSo 5 = .ok (.aload_n 0, 1) := by decide +kernel
theorem dX5_areSo_6 : decode cX5_areSo 6 = .ok (.getfield 151, 3) := by decide +kernel
theorem dX5_areSo_9 : decode cX5_areSo 9 = .ok (.if_icmp .ge 44, 3) := by decide +kernel
theorem dX5_areSo_12 : decode cX5_areSo 12 = .ok (.iload_n 1, 1) := by decide +kernel
theorem dX5_areSo_13 : decode cX5_areSo 13 = .ok (.ifCond .eq 32, 3) := by decide +kernel
theorem dX5_areSo_16 : decode cX5_areSo 16 = .ok (.aload_n 0, 1) := by decide +kernel
theorem dX5_areSo_17 : decode cX5_areSo 17 = .ok (.aload_n 0, 1) := by decide +kernel
theorem dX5_areSo_18 : decode cX5_areSo 18 = .ok (.getfield 31, 3) := by decide +kernel
theorem dX5_areSo_21 : decode cX5_areSo 21 = .ok (.iload_n 2, 1) := by decide +kernel
theorem dX5_areSo_22 : decode cX5_areSo 22 = .ok (.iaload, 1) := by decide +kernel
theorem dX5_areSo_23 : decode cX5_areSo 23 = .ok (.aload_n 0, 1) := by decide +kernel
theorem dX5_areSo_24 : decode cX5_areSo 24 = .ok (.getfield 34, 3) := by decide +kernel
theorem dX5_areSo_27 : decode cX5_areSo 27 = .ok (.iload_n 2, 1) := by decide +kernel
theorem dX5_areSo_28 : decode cX5_areSo 28 = .ok (.iaload, 1) := by decide +kernel
theorem dX5_areSo_29 : decode cX5_areSo 29 = .ok (.invokevirtual 163, 3) := by decide +kernel
theorem dX5_areSo_32 : decode cX5_areSo 32 = .ok (.aload_n 0, 1) := by decide +kernel
theorem dX5_areSo_33 : decode cX5_areSo 33 = .ok (.getfield 37, 3) := by decide +kernel
theorem dX5_areSo_36 : decode cX5_areSo 36 = .ok (.iload_n 2, 1) := by decide +kernel
theorem dX5_areSo_37 : decode cX5_areSo 37 = .ok (.iaload, 1) := by decide +kernel
theorem dX5_areSo_38 : decode cX5_areSo 38 = .ok (.if_icmp .ne 7, 3) := by decide +kernel
theorem dX5_areSo_41 : decode cX5_areSo 41 = .ok (.iconst 1, 1) := by decide +kernel
theorem dX5_areSo_42 : decode cX5_areSo 42 = .ok (.goto 4, 3) := by decide +kernel
theorem dX5_areSo_45 : decode cX5_areSo 45 = .ok (.iconst 0, 1) := by decide +kernel
theorem dX5_areSo_46 : decode cX5_areSo 46 = .ok (.istore_n 1, 1) := by decide +kernel
theorem dX5_areSo_47 : decode cX5_areSo 47 = .ok (.iinc 2 1, 3) := by decide +kernel
theorem dX5_areSo_50 : decode cX5_areSo 50 = .ok (.goto (-46), 3) := by decide +kernel
theorem dX5_areSo_53 : decode cX5_areSo 53 = .ok (.iload_n 1, 1) := by decide +kernel
theorem dX5_areSo_54 : decode cX5_areSo 54 = .ok (.ireturn, 1) := by decide +kernel
set_option maxRecDepth 20000 in
theorem tkX5_areSo : ∀ q ∈ tbX5_areSo, xOk (Zm false yX5_areSo.name) RX5 cX5_areSo 3 (some .boolean) pT pY q :=
  fa_c (ok_p (xg_st _ _) (x_iconst dX5_areSo_0 rfl)) <|
  fa_c (ok_p (xg_store _ _ _) (x_istore_n dX5_areSo_1 rfl)) <|
  fa_c (ok_p (xg_st _ _) (x_iconst dX5_areSo_2 rfl)) <|
  fa_c (ok_p (xg_store _ _ _) (x_istore_n dX5_areSo_3 rfl)) <|
  fa_c (ok_p (xg_load _ _ _) (x_iload_n dX5_areSo_4 rfl)) <|
  fa_c (ok_p (xg_load _ _ _) (x_aload_n dX5_areSo_5 rfl)) <|
  fa_c (ok_p (xg_getf _ _ _) (x_getf (C := RX5) (T := TX5) (N := 34) rfl (by decide) inX5 kw703 dX5_areSo_6)) <|
  fa_c (ok_p (xg_icmp _ _ _) (x_icmp_ge dX5_areSo_9 (by decide))) <|
  fa_c (ok_p (xg_load _ _ _) (x_iload_n dX5_areSo_12 rfl)) <|
  fa_c (ok_p (xg_if _ _ _) (x_if_eq dX5_areSo_13 (by decide))) <|
  fa_c (ok_p (xg_load _ _ _) (x_aload_n dX5_areSo_16 rfl)) <|
  fa_c (ok_p (xg_load _ _ _) (x_aload_n dX5_areSo_17 rfl)) <|
  fa_c (ok_p (xg_getf _ _ _) (x_getf (C := RX5) (T := TX5) (N := 34) rfl (by decide) inX5 kw704 dX5_areSo_18)) <|
  fa_c (ok_p (xg_load _ _ _) (x_iload_n dX5_areSo_21 rfl)) <|
  fa_c (ok_p (xg_iald _) (x_iald dX5_areSo_22)) <|
  fa_c (ok_p (xg_load _ _ _) (x_aload_n dX5_areSo_23 rfl)) <|
  fa_c (ok_p (xg_getf _ _ _) (x_getf (C := RX5) (T := TX5) (N := 34) rfl (by decide) inX5 kw705 dX5_areSo_24)) <|
  fa_c (ok_p (xg_load _ _ _) (x_iload_n dX5_areSo_27 rfl)) <|
  fa_c (ok_p (xg_iald _) (x_iald dX5_areSo_28)) <|
  fa_c (ok_c pT_140 pY_140 (x_callV (n := 2) (C := RX5) (T := TX5) (N := 34) rfl rfl kw847 kw849 kw37 kw63 kw850 (by decide +kernel) dX5_areSo_29)) <|
  fa_c (ok_p (xg_load _ _ _) (x_aload_n dX5_areSo_32 rfl)) <|
  fa_c (ok_p (xg_getf _ _ _) (x_getf (C := RX5) (T := TX5) (N := 34) rfl (by decide) inX5 kw706 dX5_areSo_33)) <|
  fa_c (ok_p (xg_load _ _ _) (x_iload_n dX5_areSo_36 rfl)) <|
  fa_c (ok_p (xg_iald _) (x_iald dX5_areSo_37)) <|
  fa_c (ok_p (xg_icmp _ _ _) (x_icmp_ne dX5_areSo_38 (by decide))) <|
  fa_c (ok_p (xg_st _ _) (x_iconst dX5_areSo_41 rfl)) <|
  fa_c (ok_p (xg_st _ _) (x_goto dX5_areSo_42 (by decide))) <|
  fa_c (ok_p (xg_st _ _) (x_iconst dX5_areSo_45 rfl)) <|
  fa_c (ok_p (xg_store _ _ _) (x_istore_n dX5_areSo_46 rfl)) <|
  fa_c (ok_p (xg_iinc _ _ _) (x_iinc dX5_areSo_47 rfl)) <|
  fa_c (ok_p (xg_st _ _) (x_goto dX5_areSo_50 (by decide))) <|
  fa_c (ok_p (xg_load _ _ _) (x_iload_n dX5_areSo_53 rfl)) <|
  fa_c (ok_r ⟨rfl, dX5_areSo_54⟩) <|
  fa_n
theorem dX5_shorts_0 : decode cX5_shorts 0 = .ok (.aload_n 0, 1) := by decide +kernel
theorem dX5_shorts_1 : decode cX5_shorts 1 = .ok (.iload_n 1, 1) := by decide +kernel
theorem dX5_shorts_2 : decode cX5_shorts 2 = .ok (.invokevirtual 160, 3) := by decide +kernel
theorem dX5_shorts_5 : decode cX5_shorts 5 = .ok (.ifCond .eq 5, 3) := by decide +kernel
theorem dX5_shorts_8 : decode cX5_shorts 8 = .ok (.iconst (-1), 1) := by decide +kernel
theorem dX5_shorts_9 : decode cX5_shorts 9 = .ok (.ireturn, 1) := by decide +kernel
theorem dX5_shorts_10 : decode cX5_shorts 10 = .ok (.aload_n 0, 1) := by decide +kernel
theorem dX5_shorts_11 : decode cX5_shorts 11 = .ok (.getfield 16, 3) := by decide +kernel
theorem dX5_shorts_14 : decode cX5_shorts 14 = .ok (.iload_n 1, 1) := by decide +kernel
theorem dX5_shorts_15 : decode cX5_shorts 15 = .ok (.iaload, 1) := by decide +kernel
theorem dX5_shorts_16 : decode cX5_shorts 16 = .ok (.istore_n 2, 1) := by decide +kernel
theorem dX5_shorts_17 : decode cX5_shorts 17 = .ok (.iconst 0, 1) := by decide +kernel
theorem dX5_shorts_18 : decode cX5_shorts 18 = .ok (.istore_n 3, 1) := by decide +kernel
theorem dX5_shorts_19 : decode cX5_shorts 19 = .ok (.iconst 0, 1) := by decide +kernel
theorem dX5_shorts_20 : decode cX5_shorts 20 = .ok (.istore 4, 2) := by decide +kernel
theorem dX5_shorts_22 : decode cX5_shorts 22 = .ok (.iload 4, 2) := by decide +kernel
theorem dX5_shorts_24 : decode cX5_shorts 24 = .ok (.bipush 10, 2) := by decide +kernel
theorem dX5_shorts_26 : decode cX5_shorts 26 = .ok (.if_icmp .ge 35, 3) := by decide +kernel
theorem dX5_shorts_29 : decode cX5_shorts 29 = .ok (.aload_n 0, 1) := by decide +kernel
theorem dX5_shorts_30 : decode cX5_shorts 30 = .ok (.getfield 16, 3) := by decide +kernel
theorem dX5_shorts_33 : decode cX5_shorts 33 = .ok (.iload_n 1, 1) := by decide +kernel
theorem dX5_shorts_34 : decode cX5_shorts 34 = .ok (.iload 4, 2) := by decide +kernel
theorem dX5_shorts_36 : decode cX5_shorts 36 = .ok (.iastore, 1) := by decide +kernel
theorem dX5_shorts_37 : decode cX5_shorts 37 = .ok (.iload_n 3, 1) := by decide +kernel
theorem dX5_shorts_38 : decode cX5_shorts 38 = .ok (.aload_n 0, 1) := by decide +kernel
theorem dX5_shorts_39 : decode cX5_shorts 39 = .ok (.invokevirtual 254, 3) := by decide +kernel
theorem dX5_shorts_42 : decode cX5_shorts 42 = .ok (.ifCond .eq 10, 3) := by decide +kernel
theorem dX5_shorts_45 : decode cX5_shorts 45 = .ok (.iconst 1, 1) := by decide +kernel
theorem dX5_shorts_46 : decode cX5_shorts 46 = .ok (.iload 4, 2) := by decide +kernel
theorem dX5_shorts_48 : decode cX5_shorts 48 = .ok (.ishl, 1) := by decide +kernel
theorem dX5_shorts_49 : decode cX5_shorts 49 = .ok (.goto 4, 3) := by decide +kernel
theorem dX5_shorts_52 : decode cX5_shorts 52 = .ok (.iconst 0, 1) := by decide +kernel
theorem dX5_shorts_53 : decode cX5_shorts 53 = .ok (.ior, 1) := by decide +kernel
theorem dX5_shorts_54 : decode cX5_shorts 54 = .ok (.istore_n 3, 1) := by decide +kernel
theorem dX5_shorts_55 : decode cX5_shorts 55 = .ok (.iinc 4 1, 3) := by decide +kernel
theorem dX5_shorts_58 : decode cX5_shorts 58 = .ok (.goto (-36), 3) := by decide +kernel
theorem dX5_shorts_61 : decode cX5_shorts 61 = .ok (.aload_n 0, 1) := by decide +kernel
theorem dX5_shorts_62 : decode cX5_shorts 62 = .ok (.getfield 16, 3) := by decide +kernel
theorem dX5_shorts_65 : decode cX5_shorts 65 = .ok (.iload_n 1, 1) := by decide +kernel
theorem dX5_shorts_66 : decode cX5_shorts 66 = .ok (.iload_n 2, 1) := by decide +kernel
theorem dX5_shorts_67 : decode cX5_shorts 67 = .ok (.iastore, 1) := by decide +kernel
theorem dX5_shorts_68 : decode cX5_shorts 68 = .ok (.iload_n 3, 1) := by decide +kernel
theorem dX5_shorts_69 : decode cX5_shorts 69 = .ok (.ireturn, 1) := by decide +kernel
set_option maxRecDepth 20000 in
theorem tkX5_shorts : ∀ q ∈ tbX5_shorts, xOk (Zm false yX5_shorts.name) RX5 cX5_shorts 5 (some .int) pT pY q :=
  fa_c (ok_p (xg_load _ _ _) (x_aload_n dX5_shorts_0 rfl)) <|
  fa_c (ok_p (xg_load _ _ _) (x_iload_n dX5_shorts_1 rfl)) <|
  fa_c (ok_c pT_130 pY_130 (x_callV (n := 1) (C := RX5) (T := TX5) (N := 34) rfl rfl kw843 kw845 kw36 kw63 kw846 (by decide +kernel) dX5_shorts_2)) <|
  fa_c (ok_p (xg_if _ _ _) (x_if_eq dX5_shorts_5 (by decide))) <|
  fa_c (ok_p (xg_st _ _) (x_iconst dX5_shorts_8 rfl)) <|
  fa_c (ok_r ⟨rfl, dX5_shorts_9⟩) <|
  fa_c (ok_p (xg_load _ _ _) (x_aload_n dX5_shorts_10 rfl)) <|
  fa_c (ok_p (xg_getf _ _ _) (x_getf (C := RX5) (T := TX5) (N := 34) rfl (by decide) inX5 kw689 dX5_shorts_11)) <|
  fa_c (ok_p (xg_load _ _ _) (x_iload_n dX5_shorts_14 rfl)) <|
  fa_c (ok_p (xg_iald _) (x_iald dX5_shorts_15)) <|
  fa_c (ok_p (xg_store _ _ _) (x_istore_n dX5_shorts_16 rfl)) <|
  fa_c (ok_p (xg_st _ _) (x_iconst dX5_shorts_17 rfl)) <|
  fa_c (ok_p (xg_store _ _ _) (x_istore_n dX5_shorts_18 rfl)) <|
  fa_c (ok_p (xg_st _ _) (x_iconst dX5_shorts_19 rfl)) <|
  fa_c (ok_p (xg_store _ _ _) (x_istore dX5_shorts_20)) <|
  fa_c (ok_p (xg_load _ _ _) (x_iload dX5_shorts_22)) <|
  fa_c (ok_p (xg_st _ _) (x_bipush dX5_shorts_24 rfl)) <|
  fa_c (ok_p (xg_icmp _ _ _) (x_icmp_ge dX5_shorts_26 (by decide))) <|
  fa_c (ok_p (xg_load _ _ _) (x_aload_n dX5_shorts_29 rfl)) <|
  fa_c (ok_p (xg_getf _ _ _) (x_getf (C := RX5) (T := TX5) (N := 34) rfl (by decide) inX5 kw689 dX5_shorts_30)) <|
  fa_c (ok_p (xg_load _ _ _) (x_iload_n dX5_shorts_33 rfl)) <|
  fa_c (ok_p (xg_load _ _ _) (x_iload dX5_shorts_34)) <|
  fa_c (ok_p (xg_iast _) (x_iast dX5_shorts_36)) <|
  fa_c (ok_p (xg_load _ _ _) (x_iload_n dX5_shorts_37 rfl)) <|
  fa_c (ok_p (xg_load _ _ _) (x_aload_n dX5_shorts_38 rfl)) <|
  fa_c (ok_c pT_175 pY_175 (x_callV (n := 0) (C := RX5) (T := TX5) (N := 34) rfl rfl kw999 kw1001 kw54 kw63 kw1002 (by decide +kernel) dX5_shorts_39)) <|
  fa_c (ok_p (xg_if _ _ _) (x_if_eq dX5_shorts_42 (by decide))) <|
  fa_c (ok_p (xg_st _ _) (x_iconst dX5_shorts_45 rfl)) <|
  fa_c (ok_p (xg_load _ _ _) (x_iload dX5_shorts_46)) <|
  fa_c (ok_p (xg_st _ _) (x_ishl dX5_shorts_48)) <|
  fa_c (ok_p (xg_st _ _) (x_goto dX5_shorts_49 (by decide))) <|
  fa_c (ok_p (xg_st _ _) (x_iconst dX5_shorts_52 rfl)) <|
  fa_c (ok_p (xg_st _ _) (x_ior dX5_shorts_53)) <|
  fa_c (ok_p (xg_store _ _ _) (x_istore_n dX5_shorts_54 rfl)) <|
  fa_c (ok_p (xg_iinc _ _ _) (x_iinc dX5_shorts_55 rfl)) <|
  fa_c (ok_p (xg_st _ _) (x_goto dX5_shorts_58 (by decide))) <|
  fa_c (ok_p (xg_load _ _ _) (x_aload_n dX5_shorts_61 rfl)) <|
  fa_c (ok_p (xg_getf _ _ _) (x_getf (C := RX5) (T := TX5) (N := 34) rfl (by decide) inX5 kw689 dX5_shorts_62)) <|
  fa_c (ok_p (xg_load _ _ _) (x_iload_n dX5_shorts_65 rfl)) <|
  fa_c (ok_p (xg_load _ _ _) (x_iload_n dX5_shorts_66 rfl)) <|
  fa_c (ok_p (xg_iast _) (x_iast dX5_shorts_67)) <|
  fa_c (ok_p (xg_load _ _ _) (x_iload_n dX5_shorts_68 rfl)) <|
  fa_c (ok_r ⟨rfl, dX5_shorts_69⟩) <|
  fa_n
theorem dX5_kinds_0 : decode cX5_kinds 0 = .ok (.aload_n 0, 1) := by decide +kernel
theorem dX5_kinds_1 : decode cX5_kinds 1 = .ok (.iload_n 1, 1) := by decide +kernel
theorem dX5_kinds_2 : decode cX5_kinds 2 = .ok (.invokevirtual 160, 3) := by decide +kernel
theorem dX5_kinds_5 : decode cX5_kinds 5 = .ok (.ifCond .eq 5, 3) := by decide +kernel
theorem dX5_kinds_8 : decode cX5_kinds 8 = .ok (.iconst (-1), 1) := by decide +kernel
theorem dX5_kinds_9 : decode cX5_kinds 9 = .ok (.ireturn, 1) := by decide +kernel
theorem dX5_kinds_10 : decode cX5_kinds 10 = .ok (.aload_n 0, 1) := by decide +kernel
theorem dX5_kinds_11 : decode cX5_kinds 11 = .ok (.getfield 13, 3) := by decide +kernel
theorem dX5_kinds_14 : decode cX5_kinds 14 = .ok (.iload_n 1, 1) := by decide +kernel
theorem dX5_kinds_15 : decode cX5_kinds 15 = .ok (.iaload, 1) := by decide +kernel
theorem dX5_kinds_16 : decode cX5_kinds 16 = .ok (.istore_n 2, 1) := by decide +kernel
theorem dX5_kinds_17 : decode cX5_kinds 17 = .ok (.iconst 0, 1) := by decide +kernel
theorem dX5_kinds_18 : decode cX5_kinds 18 = .ok (.istore_n 3, 1) := by decide +kernel
theorem dX5_kinds_19 : decode cX5_kinds 19 = .ok (.iconst 0, 1) := by decide +kernel
theorem dX5_kinds_20 : decode cX5_kinds 20 = .ok (.istore 4, 2) := by decide +kernel
theorem dX5_kinds_22 : decode cX5_kinds 22 = .ok (.iload 4, 2) := by decide +kernel
theorem dX5_kinds_24 : decode cX5_kinds 24 = .ok (.iconst 3, 1) := by decide +kernel
theorem dX5_kinds_25 : decode cX5_kinds 25 = .ok (.if_icmp .ge 35, 3) := by decide +kernel
theorem dX5_kinds_28 : decode cX5_kinds 28 = .ok (.aload_n 0, 1) := by decide +kernel
theorem dX5_kinds_29 : decode cX5_kinds 29 = .ok (.getfield 13, 3) := by decide +kernel
theorem dX5_kinds_32 : decode cX5_kinds 32 = .ok (.iload_n 1, 1) := by decide +kernel
theorem dX5_kinds_33 : decode cX5_kinds 33 = .ok (.iload 4, 2) := by decide +kernel
theorem dX5_kinds_35 : decode cX5_kinds 35 = .ok (.iastore, 1) := by decide +kernel
theorem dX5_kinds_36 : decode cX5_kinds 36 = .ok (.iload_n 3, 1) := by decide +kernel
theorem dX5_kinds_37 : decode cX5_kinds 37 = .ok (.aload_n 0, 1) := by decide +kernel
theorem dX5_kinds_38 : decode cX5_kinds 38 = .ok (.invokevirtual 254, 3) := by decide +kernel
theorem dX5_kinds_41 : decode cX5_kinds 41 = .ok (.ifCond .eq 10, 3) := by decide +kernel
theorem dX5_kinds_44 : decode cX5_kinds 44 = .ok (.iconst 1, 1) := by decide +kernel
theorem dX5_kinds_45 : decode cX5_kinds 45 = .ok (.iload 4, 2) := by decide +kernel
theorem dX5_kinds_47 : decode cX5_kinds 47 = .ok (.ishl, 1) := by decide +kernel
theorem dX5_kinds_48 : decode cX5_kinds 48 = .ok (.goto 4, 3) := by decide +kernel
theorem dX5_kinds_51 : decode cX5_kinds 51 = .ok (.iconst 0, 1) := by decide +kernel
theorem dX5_kinds_52 : decode cX5_kinds 52 = .ok (.ior, 1) := by decide +kernel
theorem dX5_kinds_53 : decode cX5_kinds 53 = .ok (.istore_n 3, 1) := by decide +kernel
theorem dX5_kinds_54 : decode cX5_kinds 54 = .ok (.iinc 4 1, 3) := by decide +kernel
theorem dX5_kinds_57 : decode cX5_kinds 57 = .ok (.goto (-35), 3) := by decide +kernel
theorem dX5_kinds_60 : decode cX5_kinds 60 = .ok (.aload_n 0, 1) := by decide +kernel
theorem dX5_kinds_61 : decode cX5_kinds 61 = .ok (.getfield 13, 3) := by decide +kernel
theorem dX5_kinds_64 : decode cX5_kinds 64 = .ok (.iload_n 1, 1) := by decide +kernel
theorem dX5_kinds_65 : decode cX5_kinds 65 = .ok (.iload_n 2, 1) := by decide +kernel
theorem dX5_kinds_66 : decode cX5_kinds 66 = .ok (.iastore, 1) := by decide +kernel
theorem dX5_kinds_67 : decode cX5_kinds 67 = .ok (.iload_n 3, 1) := by decide +kernel
theorem dX5_kinds_68 : decode cX5_kinds 68 = .ok (.ireturn, 1) := by decide +kernel
set_option maxRecDepth 20000 in
theorem tkX5_kinds : ∀ q ∈ tbX5_kinds, xOk (Zm false yX5_kinds.name) RX5 cX5_kinds 5 (some .int) pT pY q :=
  fa_c (ok_p (xg_load _ _ _) (x_aload_n dX5_kinds_0 rfl)) <|
  fa_c (ok_p (xg_load _ _ _) (x_iload_n dX5_kinds_1 rfl)) <|
  fa_c (ok_c pT_130 pY_130 (x_callV (n := 1) (C := RX5) (T := TX5) (N := 34) rfl rfl kw843 kw845 kw36 kw63 kw846 (by decide +kernel) dX5_kinds_2)) <|
  fa_c (ok_p (xg_if _ _ _) (x_if_eq dX5_kinds_5 (by decide))) <|
  fa_c (ok_p (xg_st _ _) (x_iconst dX5_kinds_8 rfl)) <|
  fa_c (ok_r ⟨rfl, dX5_kinds_9⟩) <|
  fa_c (ok_p (xg_load _ _ _) (x_aload_n dX5_kinds_10 rfl)) <|
  fa_c (ok_p (xg_getf _ _ _) (x_getf (C := RX5) (T := TX5) (N := 34) rfl (by decide) inX5 kw688 dX5_kinds_11)) <|
  fa_c (ok_p (xg_load _ _ _) (x_iload_n dX5_kinds_14 rfl)) <|
  fa_c (ok_p (xg_iald _) (x_iald dX5_kinds_15)) <|
  fa_c (ok_p (xg_store _ _ _) (x_istore_n dX5_kinds_16 rfl)) <|
  fa_c (ok_p (xg_st _ _) (x_iconst dX5_kinds_17 rfl)) <|
  fa_c (ok_p (xg_store _ _ _) (x_istore_n dX5_kinds_18 rfl)) <|
  fa_c (ok_p (xg_st _ _) (x_iconst dX5_kinds_19 rfl)) <|
  fa_c (ok_p (xg_store _ _ _) (x_istore dX5_kinds_20)) <|
  fa_c (ok_p (xg_load _ _ _) (x_iload dX5_kinds_22)) <|
  fa_c (ok_p (xg_st _ _) (x_iconst dX5_kinds_24 rfl)) <|
  fa_c (ok_p (xg_icmp _ _ _) (x_icmp_ge dX5_kinds_25 (by decide))) <|
  fa_c (ok_p (xg_load _ _ _) (x_aload_n dX5_kinds_28 rfl)) <|
  fa_c (ok_p (xg_getf _ _ _) (x_getf (C := RX5) (T := TX5) (N := 34) rfl (by decide) inX5 kw688 dX5_kinds_29)) <|
  fa_c (ok_p (xg_load _ _ _) (x_iload_n dX5_kinds_32 rfl)) <|
  fa_c (ok_p (xg_load _ _ _) (x_iload dX5_kinds_33)) <|
  fa_c (ok_p (xg_iast _) (x_iast dX5_kinds_35)) <|
  fa_c (ok_p (xg_load _ _ _) (x_iload_n dX5_kinds_36 rfl)) <|
  fa_c (ok_p (xg_load _ _ _) (x_aload_n dX5_kinds_37 rfl)) <|
  fa_c (ok_c pT_175 pY_175 (x_callV (n := 0) (C := RX5) (T := TX5) (N := 34) rfl rfl kw999 kw1001 kw54 kw63 kw1002 (by decide +kernel) dX5_kinds_38)) <|
  fa_c (ok_p (xg_if _ _ _) (x_if_eq dX5_kinds_41 (by decide))) <|
  fa_c (ok_p (xg_st _ _) (x_iconst dX5_kinds_44 rfl)) <|
  fa_c (ok_p (xg_load _ _ _) (x_iload dX5_kinds_45)) <|
  fa_c (ok_p (xg_st _ _) (x_ishl dX5_kinds_47)) <|
  fa_c (ok_p (xg_st _ _) (x_goto dX5_kinds_48 (by decide))) <|
  fa_c (ok_p (xg_st _ _) (x_iconst dX5_kinds_51 rfl)) <|
  fa_c (ok_p (xg_st _ _) (x_ior dX5_kinds_52)) <|
  fa_c (ok_p (xg_store _ _ _) (x_istore_n dX5_kinds_53 rfl)) <|
  fa_c (ok_p (xg_iinc _ _ _) (x_iinc dX5_kinds_54 rfl)) <|
  fa_c (ok_p (xg_st _ _) (x_goto dX5_kinds_57 (by decide))) <|
  fa_c (ok_p (xg_load _ _ _) (x_aload_n dX5_kinds_60 rfl)) <|
  fa_c (ok_p (xg_getf _ _ _) (x_getf (C := RX5) (T := TX5) (N := 34) rfl (by decide) inX5 kw688 dX5_kinds_61)) <|
  fa_c (ok_p (xg_load _ _ _) (x_iload_n dX5_kinds_64 rfl)) <|
  fa_c (ok_p (xg_load _ _ _) (x_iload_n dX5_kinds_65 rfl)) <|
  fa_c (ok_p (xg_iast _) (x_iast dX5_kinds_66)) <|
  fa_c (ok_p (xg_load _ _ _) (x_iload_n dX5_kinds_67 rfl)) <|
  fa_c (ok_r ⟨rfl, dX5_kinds_68⟩) <|
  fa_n
theorem dX5_odds_0 : decode cX5_odds 0 = .ok (.aload_n 0, 1) := by decide +kernel
theorem dX5_odds_1 : decode cX5_odds 1 = .ok (.iload_n 1, 1) := by decide +kernel
theorem dX5_odds_2 : decode cX5_odds 2 = .ok (.invokevirtual 160, 3) := by decide +kernel
theorem dX5_odds_5 : decode cX5_odds 5 = .ok (.ifCond .ne 25, 3) := by decide +kernel
theorem dX5_odds_8 : decode cX5_odds 8 = .ok (.iload_n 2, 1) := by decide +kernel
theorem dX5_odds_9 : decode cX5_odds 9 = .ok (.i2l, 1) := by decide +kernel
theorem dX5_odds_10 : decode cX5_odds 10 = .ok (.lconst 0, 1) := by decide +kernel
theorem dX5_odds_11 : decode cX5_odds 11 = .ok (.ldc2_w 252, 3) := by decide +kernel
theorem dX5_odds_14 : decode cX5_odds 14 = .ok (.invokestatic 65, 3) := by decide +kernel
theorem dX5_odds_17 : decode cX5_odds 17 = .ok (.ifCond .eq 13, 3) := by decide +kernel
theorem dX5_odds_20 : decode cX5_odds 20 = .ok (.iload_n 3, 1) := by decide +kernel
theorem dX5_odds_21 : decode cX5_odds 21 = .ok (.i2l, 1) := by decide +kernel
theorem dX5_odds_22 : decode cX5_odds 22 = .ok (.lconst 0, 1) := by decide +kernel
theorem dX5_odds_23 : decode cX5_odds 23 = .ok (.lconst 1, 1) := by decide +kernel
theorem dX5_odds_24 : decode cX5_odds 24 = .ok (.invokestatic 65, 3) := by decide +kernel
theorem dX5_odds_27 : decode cX5_odds 27 = .ok (.ifCond .ne 7, 3) := by decide +kernel
theorem dX5_odds_30 : decode cX5_odds 30 = .ok (.invokestatic 58, 3) := by decide +kernel
theorem dX5_odds_33 : decode cX5_odds 33 = .ok (.lreturn, 1) := by decide +kernel
theorem dX5_odds_34 : decode cX5_odds 34 = .ok (.lconst 0, 1) := by decide +kernel
theorem dX5_odds_35 : decode cX5_odds 35 = .ok (.lstore 4, 2) := by decide +kernel
theorem dX5_odds_37 : decode cX5_odds 37 = .ok (.iconst 0, 1) := by decide +kernel
theorem dX5_odds_38 : decode cX5_odds 38 = .ok (.istore 6, 2) := by decide +kernel
theorem dX5_odds_40 : decode cX5_odds 40 = .ok (.iload 6, 2) := by decide +kernel
theorem dX5_odds_42 : decode cX5_odds 42 = .ok (.aload_n 0, 1) := by decide +kernel
theorem dX5_odds_43 : decode cX5_odds 43 = .ok (.getfield 72, 3) := by decide +kernel
theorem dX5_odds_46 : decode cX5_odds 46 = .ok (.if_icmp .ge 68, 3) := by decide +kernel
theorem dX5_odds_49 : decode cX5_odds 49 = .ok (.iconst 0, 1) := by decide +kernel
theorem dX5_odds_50 : decode cX5_odds 50 = .ok (.istore 7, 2) := by decide +kernel
theorem dX5_odds_52 : decode cX5_odds 52 = .ok (.iload 7, 2) := by decide +kernel
theorem dX5_odds_54 : decode cX5_odds 54 = .ok (.aload_n 0, 1) := by decide +kernel
theorem dX5_odds_55 : decode cX5_odds 55 = .ok (.getfield 69, 3) := by decide +kernel
theorem dX5_odds_58 : decode cX5_odds 58 = .ok (.aload_n 0, 1) := by decide +kernel
theorem dX5_odds_59 : decode cX5_odds 59 = .ok (.getfield 62, 3) := by decide +kernel
theorem dX5_odds_62 : decode cX5_odds 62 = .ok (.isub, 1) := by decide +kernel
theorem dX5_odds_63 : decode cX5_odds 63 = .ok (.if_icmp .gt 45, 3) := by decide +kernel
theorem dX5_odds_66 : decode cX5_odds 66 = .ok (.lload 4, 2) := by decide +kernel
theorem dX5_odds_68 : decode cX5_odds 68 = .ok (.aload_n 0, 1) := by decide +kernel
theorem dX5_odds_69 : decode cX5_odds 69 = .ok (.iload_n 1, 1) := by decide +kernel
theorem dX5_odds_70 : decode cX5_odds 70 = .ok (.aload_n 0, 1) := by decide +kernel
theorem dX5_odds_71 : decode cX5_odds 71 = .ok (.getfield 7, 3) := by decide +kernel
theorem dX5_odds_74 : decode cX5_odds 74 = .ok (.aload_n 0, 1) := by decide +kernel
theorem dX5_odds_75 : decode cX5_odds 75 = .ok (.getfield 69, 3) := by decide +kernel
theorem dX5_odds_78 : decode cX5_odds 78 = .ok (.iload 6, 2) := by decide +kernel
theorem dX5_odds_80 : decode cX5_odds 80 = .ok (.imul, 1) := by decide +kernel
theorem dX5_odds_81 : decode cX5_odds 81 = .ok (.iload 7, 2) := by decide +kernel
theorem dX5_odds_83 : decode cX5_odds 83 = .ok (.iadd, 1) := by decide +kernel
theorem dX5_odds_84 : decode cX5_odds 84 = .ok (.iload_n 1, 1) := by decide +kernel
theorem dX5_odds_85 : decode cX5_odds 85 = .ok (.iadd, 1) := by decide +kernel
theorem dX5_odds_86 : decode cX5_odds 86 = .ok (.iaload, 1) := by decide +kernel
theorem dX5_odds_87 : decode cX5_odds 87 = .ok (.invokevirtual 163, 3) := by decide +kernel
theorem dX5_odds_90 : decode cX5_odds 90 = .ok (.iload_n 2, 1) := by decide +kernel
theorem dX5_odds_91 : decode cX5_odds 91 = .ok (.if_icmp .lt 7, 3) := by decide +kernel
theorem dX5_odds_94 : decode cX5_odds 94 = .ok (.lconst 1, 1) := by decide +kernel
theorem dX5_odds_95 : decode cX5_odds 95 = .ok (.goto 4, 3) := by decide +kernel
theorem dX5_odds_98 : decode cX5_odds 98 = .ok (.lconst 0, 1) := by decide +kernel
theorem dX5_odds_99 : decode cX5_odds 99 = .ok (.ladd, 1) := by decide +kernel
theorem dX5_odds_100 : decode cX5_odds 100 = .ok (.lstore 4, 2) := by decide +kernel
theorem dX5_odds_102 : decode cX5_odds 102 = .ok (.iinc 7 1, 3) := by decide +kernel
theorem dX5_odds_105 : decode cX5_odds 105 = .ok (.goto (-53), 3) := by decide +kernel
theorem dX5_odds_108 : decode cX5_odds 108 = .ok (.iinc 6 1, 3) := by decide +kernel
theorem dX5_odds_111 : decode cX5_odds 111 = .ok (.goto (-71), 3) := by decide +kernel
theorem dX5_odds_114 : decode cX5_odds 114 = .ok (.lload 4, 2) := by decide +kernel
theorem dX5_odds_116 : decode cX5_odds 116 = .ok (.aload_n 0, 1) := by decide +kernel
theorem dX5_odds_117 : decode cX5_odds 117 = .ok (.getfield 69, 3) := by decide +kernel
theorem dX5_odds_120 : decode cX5_odds 120 = .ok (.aload_n 0, 1) := by decide +kernel
theorem dX5_odds_121 : decode cX5_odds 121 = .ok (.getfield 62, 3) := by decide +kernel
theorem dX5_odds_124 : decode cX5_odds 124 = .ok (.isub, 1) := by decide +kernel
theorem dX5_odds_125 : decode cX5_odds 125 = .ok (.i2l, 1) := by decide +kernel
theorem dX5_odds_126 : decode cX5_odds 126 = .ok (.lconst 1, 1) := by decide +kernel
theorem dX5_odds_127 : decode cX5_odds 127 = .ok (.ladd, 1) := by decide +kernel
theorem dX5_odds_128 : decode cX5_odds 128 = .ok (.aload_n 0, 1) := by decide +kernel
theorem dX5_odds_129 : decode cX5_odds 129 = .ok (.getfield 72, 3) := by decide +kernel
theorem dX5_odds_132 : decode cX5_odds 132 = .ok (.i2l, 1) := by decide +kernel
theorem dX5_odds_133 : decode cX5_odds 133 = .ok (.lmul, 1) := by decide +kernel
theorem dX5_odds_134 : decode cX5_odds 134 = .ok (.iload_n 3, 1) := by decide +kernel
theorem dX5_odds_135 : decode cX5_odds 135 = .ok (.invokestatic 258, 3) := by decide +kernel
theorem dX5_odds_138 : decode cX5_odds 138 = .ok (.lreturn, 1) := by decide +kernel
set_option maxRecDepth 20000 in
theorem tkX5_odds : ∀ q ∈ tbX5_odds, xOk (Zm false yX5_odds.name) RX5 cX5_odds 8 (some .long) pT pY q :=
  fa_c (ok_p (xg_load _ _ _) (x_aload_n dX5_odds_0 rfl)) <|
  fa_c (ok_p (xg_load _ _ _) (x_iload_n dX5_odds_1 rfl)) <|
  fa_c (ok_c pT_130 pY_130 (x_callV (n := 1) (C := RX5) (T := TX5) (N := 34) rfl rfl kw843 kw845 kw36 kw63 kw846 (by decide +kernel) dX5_odds_2)) <|
  fa_c (ok_p (xg_if _ _ _) (x_if_ne dX5_odds_5 (by decide))) <|
  fa_c (ok_p (xg_load _ _ _) (x_iload_n dX5_odds_8 rfl)) <|
  fa_c (ok_p (xg_st _ _) (x_i2l dX5_odds_9)) <|
  fa_c (ok_p (xg_st _ _) (x_lconst dX5_odds_10 rfl)) <|
  fa_c (ok_p (xg_st _ _) (x_ldc2 dX5_odds_11 kw990)) <|
  fa_c (ok_c pT_122 pY_122 (x_callS (n := 3) rfl kw789 kw790 kw63 kw791 (by decide +kernel) dX5_odds_14)) <|
  fa_c (ok_p (xg_if _ _ _) (x_if_eq dX5_odds_17 (by decide))) <|
  fa_c (ok_p (xg_load _ _ _) (x_iload_n dX5_odds_20 rfl)) <|
  fa_c (ok_p (xg_st _ _) (x_i2l dX5_odds_21)) <|
  fa_c (ok_p (xg_st _ _) (x_lconst dX5_odds_22 rfl)) <|
  fa_c (ok_p (xg_st _ _) (x_lconst dX5_odds_23 rfl)) <|
  fa_c (ok_c pT_122 pY_122 (x_callS (n := 3) rfl kw789 kw790 kw63 kw791 (by decide +kernel) dX5_odds_24)) <|
  fa_c (ok_p (xg_if _ _ _) (x_if_ne dX5_odds_27 (by decide))) <|
  fa_c (ok_c pT_123 pY_123 (x_callS (n := 0) rfl kw883 kw884 kw63 kw885 (by decide +kernel) dX5_odds_30)) <|
  fa_c (ok_r ⟨rfl, dX5_odds_33⟩) <|
  fa_c (ok_p (xg_st _ _) (x_lconst dX5_odds_34 rfl)) <|
  fa_c (ok_p (xg_store _ _ _) (x_lstore dX5_odds_35)) <|
  fa_c (ok_p (xg_st _ _) (x_iconst dX5_odds_37 rfl)) <|
  fa_c (ok_p (xg_store _ _ _) (x_istore dX5_odds_38)) <|
  fa_c (ok_p (xg_clr _ (xg_load _ _ _)) (x_clr _ (x_iload dX5_odds_40))) <|
  fa_c (ok_p (xg_load _ _ _) (x_aload_n dX5_odds_42 rfl)) <|
  fa_c (ok_p (xg_getf _ _ _) (x_getf (C := RX5) (T := TX5) (N := 34) rfl (by decide) inX5 kw680 dX5_odds_43)) <|
  fa_c (ok_p (xg_icmp _ _ _) (x_icmp_ge dX5_odds_46 (by decide))) <|
  fa_c (ok_p (xg_st _ _) (x_iconst dX5_odds_49 rfl)) <|
  fa_c (ok_p (xg_store _ _ _) (x_istore dX5_odds_50)) <|
  fa_c (ok_p (xg_load _ _ _) (x_iload dX5_odds_52)) <|
  fa_c (ok_p (xg_load _ _ _) (x_aload_n dX5_odds_54 rfl)) <|
  fa_c (ok_p (xg_getf _ _ _) (x_getf (C := RX5) (T := TX5) (N := 34) rfl (by decide) inX5 kw679 dX5_odds_55)) <|
  fa_c (ok_p (xg_load _ _ _) (x_aload_n dX5_odds_58 rfl)) <|
  fa_c (ok_p (xg_getf _ _ _) (x_getf (C := RX5) (T := TX5) (N := 34) rfl (by decide) inX5 kw681 dX5_odds_59)) <|
  fa_c (ok_p (xg_st _ _) (x_isub dX5_odds_62)) <|
  fa_c (ok_p (xg_icmp _ _ _) (x_icmp_gt dX5_odds_63 (by decide))) <|
  fa_c (ok_p (xg_load _ _ _) (x_lload dX5_odds_66)) <|
  fa_c (ok_p (xg_load _ _ _) (x_aload_n dX5_odds_68 rfl)) <|
  fa_c (ok_p (xg_load _ _ _) (x_iload_n dX5_odds_69 rfl)) <|
  fa_c (ok_p (xg_load _ _ _) (x_aload_n dX5_odds_70 rfl)) <|
  fa_c (ok_p (xg_getf _ _ _) (x_getf (C := RX5) (T := TX5) (N := 34) rfl (by decide) inX5 kw687 dX5_odds_71)) <|
  fa_c (ok_p (xg_load _ _ _) (x_aload_n dX5_odds_74 rfl)) <|
  fa_c (ok_p (xg_getf _ _ _) (x_getf (C := RX5) (T := TX5) (N := 34) rfl (by decide) inX5 kw679 dX5_odds_75)) <|
  fa_c (ok_p (xg_load _ _ _) (x_iload dX5_odds_78)) <|
  fa_c (ok_p (xg_st _ _) (x_imul dX5_odds_80)) <|
  fa_c (ok_p (xg_load _ _ _) (x_iload dX5_odds_81)) <|
  fa_c (ok_p (xg_st _ _) (x_iadd dX5_odds_83)) <|
  fa_c (ok_p (xg_load _ _ _) (x_iload_n dX5_odds_84 rfl)) <|
  fa_c (ok_p (xg_st _ _) (x_iadd dX5_odds_85)) <|
  fa_c (ok_p (xg_iald _) (x_iald dX5_odds_86)) <|
  fa_c (ok_c pT_140 pY_140 (x_callV (n := 2) (C := RX5) (T := TX5) (N := 34) rfl rfl kw847 kw849 kw37 kw63 kw850 (by decide +kernel) dX5_odds_87)) <|
  fa_c (ok_p (xg_load _ _ _) (x_iload_n dX5_odds_90 rfl)) <|
  fa_c (ok_p (xg_icmp _ _ _) (x_icmp_lt dX5_odds_91 (by decide))) <|
  fa_c (ok_p (xg_st _ _) (x_lconst dX5_odds_94 rfl)) <|
  fa_c (ok_p (xg_st _ _) (x_goto dX5_odds_95 (by decide))) <|
  fa_c (ok_p (xg_st _ _) (x_lconst dX5_odds_98 rfl)) <|
  fa_c (ok_p (xg_st _ _) (x_ladd dX5_odds_99)) <|
  fa_c (ok_p (xg_store _ _ _) (x_lstore dX5_odds_100)) <|
  fa_c (ok_p (xg_iinc _ _ _) (x_iinc dX5_odds_102 rfl)) <|
  fa_c (ok_p (xg_st _ _) (x_goto dX5_odds_105 (by decide))) <|
  fa_c (ok_p (xg_iinc _ _ _) (x_iinc dX5_odds_108 rfl)) <|
  fa_c (ok_p (xg_st _ _) (x_goto dX5_odds_111 (by decide))) <|
  fa_c (ok_p (xg_load _ _ _) (x_lload dX5_odds_114)) <|
  fa_c (ok_p (xg_load _ _ _) (x_aload_n dX5_odds_116 rfl)) <|
  fa_c (ok_p (xg_getf _ _ _) (x_getf (C := RX5) (T := TX5) (N := 34) rfl (by decide) inX5 kw679 dX5_odds_117)) <|
  fa_c (ok_p (xg_load _ _ _) (x_aload_n dX5_odds_120 rfl)) <|
  fa_c (ok_p (xg_getf _ _ _) (x_getf (C := RX5) (T := TX5) (N := 34) rfl (by decide) inX5 kw681 dX5_odds_121)) <|
  fa_c (ok_p (xg_st _ _) (x_isub dX5_odds_124)) <|
  fa_c (ok_p (xg_st _ _) (x_i2l dX5_odds_125)) <|
  fa_c (ok_p (xg_st _ _) (x_lconst dX5_odds_126 rfl)) <|
  fa_c (ok_p (xg_st _ _) (x_ladd dX5_odds_127)) <|
  fa_c (ok_p (xg_load _ _ _) (x_aload_n dX5_odds_128 rfl)) <|
  fa_c (ok_p (xg_getf _ _ _) (x_getf (C := RX5) (T := TX5) (N := 34) rfl (by decide) inX5 kw680 dX5_odds_129)) <|
  fa_c (ok_p (xg_st _ _) (x_i2l dX5_odds_132)) <|
  fa_c (ok_p (xg_st _ _) (x_lmul dX5_odds_133)) <|
  fa_c (ok_p (xg_load _ _ _) (x_iload_n dX5_odds_134 rfl)) <|
  fa_c (ok_c pT_126 pY_126 (x_callS (n := 3) rfl kw1011 kw1012 kw63 kw1013 (by decide +kernel) dX5_odds_135)) <|
  fa_c (ok_r ⟨rfl, dX5_odds_138⟩) <|
  fa_n
theorem dX5_noSheet_0 : decode cX5_noSheet 0 = .ok (.iload_n 0, 1) := by decide +kernel
theorem dX5_noSheet_1 : decode cX5_noSheet 1 = .ok (.i2l, 1) := by decide +kernel
theorem dX5_noSheet_2 : decode cX5_noSheet 2 = .ok (.lconst 0, 1) := by decide +kernel
theorem dX5_noSheet_3 : decode cX5_noSheet 3 = .ok (.ldc2_w 184, 3) := by decide +kernel
theorem dX5_noSheet_6 : decode cX5_noSheet 6 = .ok (.invokestatic 65, 3) := by decide +kernel
theorem dX5_noSheet_9 : decode cX5_noSheet 9 = .ok (.ifCond .ne 7, 3) := by decide +kernel
theorem dX5_noSheet_12 : decode cX5_noSheet 12 = .ok (.iconst 1, 1) := by decide +kernel
theorem dX5_noSheet_13 : decode cX5_noSheet 13 = .ok (.goto 4, 3) := by decide +kernel
theorem dX5_noSheet_16 : decode cX5_noSheet 16 = .ok (.iconst 0, 1) := by decide +kernel
theorem dX5_noSheet_17 : decode cX5_noSheet 17 = .ok (.ireturn, 1) := by decide +kernel
set_option maxRecDepth 20000 in
theorem tkX5_noSheet : ∀ q ∈ tbX5_noSheet, xOk (Zm false yX5_noSheet.name) RX5 cX5_noSheet 1 (some .boolean) pT pY q :=
  fa_c (ok_p (xg_load _ _ _) (x_iload_n dX5_noSheet_0 rfl)) <|
  fa_c (ok_p (xg_st _ _) (x_i2l dX5_noSheet_1)) <|
  fa_c (ok_p (xg_st _ _) (x_lconst dX5_noSheet_2 rfl)) <|
  fa_c (ok_p (xg_st _ _) (x_ldc2 dX5_noSheet_3 kw788)) <|
  fa_c (ok_c pT_122 pY_122 (x_callS (n := 3) rfl kw789 kw790 kw63 kw791 (by decide +kernel) dX5_noSheet_6)) <|
  fa_c (ok_p (xg_if _ _ _) (x_if_ne dX5_noSheet_9 (by decide))) <|
  fa_c (ok_p (xg_st _ _) (x_iconst dX5_noSheet_12 rfl)) <|
  fa_c (ok_p (xg_st _ _) (x_goto dX5_noSheet_13 (by decide))) <|
  fa_c (ok_p (xg_st _ _) (x_iconst dX5_noSheet_16 rfl)) <|
  fa_c (ok_r ⟨rfl, dX5_noSheet_17⟩) <|
  fa_n
theorem dX5_sheet_0 : decode cX5_sheet 0 = .ok (.iload_n 1, 1) := by decide +kernel
theorem dX5_sheet_1 : decode cX5_sheet 1 = .ok (.invokestatic 116, 3) := by decide +kernel
theorem dX5_sheet_4 : decode cX5_sheet 4 = .ok (.ifCond .eq 9, 3) := by decide +kernel
theorem dX5_sheet_7 : decode cX5_sheet 7 = .ok (.aload_n 0, 1) := by decide +kernel
theorem dX5_sheet_8 : decode cX5_sheet 8 = .ok (.iconst (-1), 1) := by decide +kernel
theorem dX5_sheet_9 : decode cX5_sheet 9 = .ok (.invokevirtual 120, 3) := by decide +kernel
theorem dX5_sheet_12 : decode cX5_sheet 12 = .ok (.ireturn, 1) := by decide +kernel
theorem dX5_sheet_13 : decode cX5_sheet 13 = .ok (.iload_n 2, 1) := by decide +kernel
theorem dX5_sheet_14 : decode cX5_sheet 14 = .ok (.i2l, 1) := by decide +kernel
theorem dX5_sheet_15 : decode cX5_sheet 15 = .ok (.lconst 0, 1) := by decide +kernel
theorem dX5_sheet_16 : decode cX5_sheet 16 = .ok (.ldc2_w 123, 3) := by decide +kernel
theorem dX5_sheet_19 : decode cX5_sheet 19 = .ok (.invokestatic 65, 3) := by decide +kernel
theorem dX5_sheet_22 : decode cX5_sheet 22 = .ok (.ifCond .eq 9, 3) := by decide +kernel
theorem dX5_sheet_25 : decode cX5_sheet 25 = .ok (.iload_n 3, 1) := by decide +kernel
theorem dX5_sheet_26 : decode cX5_sheet 26 = .ok (.bipush 60, 2) := by decide +kernel
theorem dX5_sheet_28 : decode cX5_sheet 28 = .ok (.if_icmp .le 10, 3) := by decide +kernel
theorem dX5_sheet_31 : decode cX5_sheet 31 = .ok (.aload_n 0, 1) := by decide +kernel
theorem dX5_sheet_32 : decode cX5_sheet 32 = .ok (.bipush (-2), 2) := by decide +kernel
theorem dX5_sheet_34 : decode cX5_sheet 34 = .ok (.invokevirtual 120, 3) := by decide +kernel
theorem dX5_sheet_37 : decode cX5_sheet 37 = .ok (.ireturn, 1) := by decide +kernel
theorem dX5_sheet_38 : decode cX5_sheet 38 = .ok (.iload_n 3, 1) := by decide +kernel
theorem dX5_sheet_39 : decode cX5_sheet 39 = .ok (.ifCond .ge 9, 3) := by decide +kernel
theorem dX5_sheet_42 : decode cX5_sheet 42 = .ok (.aload_n 0, 1) := by decide +kernel
theorem dX5_sheet_43 : decode cX5_sheet 43 = .ok (.iconst 4, 1) := by decide +kernel
theorem dX5_sheet_44 : decode cX5_sheet 44 = .ok (.invokevirtual 108, 3) := by decide +kernel
theorem dX5_sheet_47 : decode cX5_sheet 47 = .ok (.ireturn, 1) := by decide +kernel
theorem dX5_sheet_48 : decode cX5_sheet 48 = .ok (.aload_n 0, 1) := by decide +kernel
theorem dX5_sheet_49 : decode cX5_sheet 49 = .ok (.getfield 40, 3) := by decide +kernel
theorem dX5_sheet_52 : decode cX5_sheet 52 = .ok (.iload_n 1, 1) := by decide +kernel
theorem dX5_sheet_53 : decode cX5_sheet 53 = .ok (.iload_n 3, 1) := by decide +kernel
theorem dX5_sheet_54 : decode cX5_sheet 54 = .ok (.iastore, 1) := by decide +kernel
theorem dX5_sheet_55 : decode cX5_sheet 55 = .ok (.aload_n 0, 1) := by decide +kernel
theorem dX5_sheet_56 : decode cX5_sheet 56 = .ok (.getfield 43, 3) := by decide +kernel
theorem dX5_sheet_59 : decode cX5_sheet 59 = .ok (.iload_n 1, 1) := by decide +kernel
theorem dX5_sheet_60 : decode cX5_sheet 60 = .ok (.iload_n 2, 1) := by decide +kernel
theorem dX5_sheet_61 : decode cX5_sheet 61 = .ok (.iastore, 1) := by decide +kernel
theorem dX5_sheet_62 : decode cX5_sheet 62 = .ok (.iconst 0, 1) := by decide +kernel
theorem dX5_sheet_63 : decode cX5_sheet 63 = .ok (.istore 4, 2) := by decide +kernel
theorem dX5_sheet_65 : decode cX5_sheet 65 = .ok (.iload 4, 2) := by decide +kernel
theorem dX5_sheet_67 : decode cX5_sheet 67 = .ok (.iload_n 3, 1) := by decide +kernel
theorem dX5_sheet_68 : decode cX5_sheet 68 = .ok (.if_icmp .ge 22, 3) := by decide +kernel
theorem dX5_sheet_71 : decode cX5_sheet 71 = .ok (.aload_n 0, 1) := by decide +kernel
theorem dX5_sheet_72 : decode cX5_sheet 72 = .ok (.getfield 46, 3) := by decide +kernel
theorem dX5_sheet_75 : decode cX5_sheet 75 = .ok (.bipush 60, 2) := by decide +kernel
theorem dX5_sheet_77 : decode cX5_sheet 77 = .ok (.iload_n 1, 1) := by decide +kernel
theorem dX5_sheet_78 : decode cX5_sheet 78 = .ok (.imul, 1) := by decide +kernel
theorem dX5_sheet_79 : decode cX5_sheet 79 = .ok (.iload 4, 2) := by decide +kernel
theorem dX5_sheet_81 : decode cX5_sheet 81 = .ok (.iadd, 1) := by decide +kernel
theorem dX5_sheet_82 : decode cX5_sheet 82 = .ok (.iconst 0, 1) := by decide +kernel
theorem dX5_sheet_83 : decode cX5_sheet 83 = .ok (.iastore, 1) := by decide +kernel
theorem dX5_sheet_84 : decode cX5_sheet 84 = .ok (.iinc 4 1, 3) := by decide +kernel
theorem dX5_sheet_87 : decode cX5_sheet 87 = .ok (.goto (-22), 3) := by decide +kernel
theorem dX5_sheet_90 : decode cX5_sheet 90 = .ok (.aload_n 0, 1) := by decide +kernel
theorem dX5_sheet_91 : decode cX5_sheet 91 = .ok (.iconst 1, 1) := by decide +kernel
theorem dX5_sheet_92 : decode cX5_sheet 92 = .ok (.invokevirtual 120, 3) := by decide +kernel
theorem dX5_sheet_95 : decode cX5_sheet 95 = .ok (.ireturn, 1) := by decide +kernel
set_option maxRecDepth 20000 in
theorem tkX5_sheet : ∀ q ∈ tbX5_sheet, xOk (Zm false yX5_sheet.name) RX5 cX5_sheet 5 (some .int) pT pY q :=
  fa_c (ok_p (xg_load _ _ _) (x_iload_n dX5_sheet_0 rfl)) <|
  fa_c (ok_c pT_179 pY_179 (x_callS (n := 1) rfl kw785 kw786 kw63 kw787 (by decide +kernel) dX5_sheet_1)) <|
  fa_c (ok_p (xg_if _ _ _) (x_if_eq dX5_sheet_4 (by decide))) <|
  fa_c (ok_p (xg_load _ _ _) (x_aload_n dX5_sheet_7 rfl)) <|
  fa_c (ok_p (xg_st _ _) (x_iconst dX5_sheet_8 rfl)) <|
  fa_c (ok_c pT_127 pY_127 (x_callV (n := 1) (C := RX5) (T := TX5) (N := 34) rfl rfl kw792 kw794 kw26 kw63 kw795 (by decide +kernel) dX5_sheet_9)) <|
  fa_c (ok_r ⟨rfl, dX5_sheet_12⟩) <|
  fa_c (ok_p (xg_load _ _ _) (x_iload_n dX5_sheet_13 rfl)) <|
  fa_c (ok_p (xg_st _ _) (x_i2l dX5_sheet_14)) <|
  fa_c (ok_p (xg_st _ _) (x_lconst dX5_sheet_15 rfl)) <|
  fa_c (ok_p (xg_st _ _) (x_ldc2 dX5_sheet_16 kw796)) <|
  fa_c (ok_c pT_122 pY_122 (x_callS (n := 3) rfl kw789 kw790 kw63 kw791 (by decide +kernel) dX5_sheet_19)) <|
  fa_c (ok_p (xg_if _ _ _) (x_if_eq dX5_sheet_22 (by decide))) <|
  fa_c (ok_p (xg_load _ _ _) (x_iload_n dX5_sheet_25 rfl)) <|
  fa_c (ok_p (xg_st _ _) (x_bipush dX5_sheet_26 rfl)) <|
  fa_c (ok_p (xg_icmp _ _ _) (x_icmp_le dX5_sheet_28 (by decide))) <|
  fa_c (ok_p (xg_load _ _ _) (x_aload_n dX5_sheet_31 rfl)) <|
  fa_c (ok_p (xg_st _ _) (x_bipush dX5_sheet_32 rfl)) <|
  fa_c (ok_c pT_127 pY_127 (x_callV (n := 1) (C := RX5) (T := TX5) (N := 34) rfl rfl kw792 kw794 kw26 kw63 kw795 (by decide +kernel) dX5_sheet_34)) <|
  fa_c (ok_r ⟨rfl, dX5_sheet_37⟩) <|
  fa_c (ok_p (xg_load _ _ _) (x_iload_n dX5_sheet_38 rfl)) <|
  fa_c (ok_p (xg_if _ _ _) (x_if_ge dX5_sheet_39 (by decide))) <|
  fa_c (ok_p (xg_load _ _ _) (x_aload_n dX5_sheet_42 rfl)) <|
  fa_c (ok_p (xg_st _ _) (x_iconst dX5_sheet_43 rfl)) <|
  fa_c (ok_c pT_128 pY_128 (x_callV (n := 1) (C := RX5) (T := TX5) (N := 34) rfl rfl kw801 kw803 kw28 kw63 kw804 (by decide +kernel) dX5_sheet_44)) <|
  fa_c (ok_r ⟨rfl, dX5_sheet_47⟩) <|
  fa_c (ok_p (xg_load _ _ _) (x_aload_n dX5_sheet_48 rfl)) <|
  fa_c (ok_p (xg_getf _ _ _) (x_getf (C := RX5) (T := TX5) (N := 34) rfl (by decide) inX5 kw707 dX5_sheet_49)) <|
  fa_c (ok_p (xg_load _ _ _) (x_iload_n dX5_sheet_52 rfl)) <|
  fa_c (ok_p (xg_load _ _ _) (x_iload_n dX5_sheet_53 rfl)) <|
  fa_c (ok_p (xg_iast _) (x_iast dX5_sheet_54)) <|
  fa_c (ok_p (xg_load _ _ _) (x_aload_n dX5_sheet_55 rfl)) <|
  fa_c (ok_p (xg_getf _ _ _) (x_getf (C := RX5) (T := TX5) (N := 34) rfl (by decide) inX5 kw708 dX5_sheet_56)) <|
  fa_c (ok_p (xg_load _ _ _) (x_iload_n dX5_sheet_59 rfl)) <|
  fa_c (ok_p (xg_load _ _ _) (x_iload_n dX5_sheet_60 rfl)) <|
  fa_c (ok_p (xg_iast _) (x_iast dX5_sheet_61)) <|
  fa_c (ok_p (xg_st _ _) (x_iconst dX5_sheet_62 rfl)) <|
  fa_c (ok_p (xg_store _ _ _) (x_istore dX5_sheet_63)) <|
  fa_c (ok_p (xg_clr _ (xg_load _ _ _)) (x_clr _ (x_iload dX5_sheet_65))) <|
  fa_c (ok_p (xg_load _ _ _) (x_iload_n dX5_sheet_67 rfl)) <|
  fa_c (ok_p (xg_icmp _ _ _) (x_icmp_ge dX5_sheet_68 (by decide))) <|
  fa_c (ok_p (xg_load _ _ _) (x_aload_n dX5_sheet_71 rfl)) <|
  fa_c (ok_p (xg_getf _ _ _) (x_getf (C := RX5) (T := TX5) (N := 34) rfl (by decide) inX5 kw709 dX5_sheet_72)) <|
  fa_c (ok_p (xg_st _ _) (x_bipush dX5_sheet_75 rfl)) <|
  fa_c (ok_p (xg_load _ _ _) (x_iload_n dX5_sheet_77 rfl)) <|
  fa_c (ok_p (xg_st _ _) (x_imul dX5_sheet_78)) <|
  fa_c (ok_p (xg_load _ _ _) (x_iload dX5_sheet_79)) <|
  fa_c (ok_p (xg_st _ _) (x_iadd dX5_sheet_81)) <|
  fa_c (ok_p (xg_st _ _) (x_iconst dX5_sheet_82 rfl)) <|
  fa_c (ok_p (xg_iast _) (x_iast dX5_sheet_83)) <|
  fa_c (ok_p (xg_iinc _ _ _) (x_iinc dX5_sheet_84 rfl)) <|
  fa_c (ok_p (xg_st _ _) (x_goto dX5_sheet_87 (by decide))) <|
  fa_c (ok_p (xg_load _ _ _) (x_aload_n dX5_sheet_90 rfl)) <|
  fa_c (ok_p (xg_st _ _) (x_iconst dX5_sheet_91 rfl)) <|
  fa_c (ok_c pT_127 pY_127 (x_callV (n := 1) (C := RX5) (T := TX5) (N := 34) rfl rfl kw792 kw794 kw26 kw63 kw795 (by decide +kernel) dX5_sheet_92)) <|
  fa_c (ok_r ⟨rfl, dX5_sheet_95⟩) <|
  fa_n
theorem dX5_lose_0 : decode cX5_lose 0 = .ok (.iload_n 1, 1) := by decide +kernel
theorem dX5_lose_1 : decode cX5_lose 1 = .ok (.invokestatic 116, 3) := by decide +kernel
theorem dX5_lose_4 : decode cX5_lose 4 = .ok (.ifCond .eq 5, 3) := by decide +kernel
theorem dX5_lose_7 : decode cX5_lose 7 = .ok (.iconst (-1), 1) := by decide +kernel
theorem dX5_lose_8 : decode cX5_lose 8 = .ok (.ireturn, 1) := by decide +kernel
theorem dX5_lose_9 : decode cX5_lose 9 = .ok (.aload_n 0, 1) := by decide +kernel
theorem dX5_lose_10 : decode cX5_lose 10 = .ok (.getfield 40, 3) := by decide +kernel
theorem dX5_lose_13 : decode cX5_lose 13 = .ok (.iload_n 1, 1) := by decide +kernel
theorem dX5_lose_14 : decode cX5_lose 14 = .ok (.iaload, 1) := by decide +kernel
theorem dX5_lose_15 : decode cX5_lose 15 = .ok (.ifCond .ge 7, 3) := by decide +kernel
theorem dX5_lose_18 : decode cX5_lose 18 = .ok (.iconst 0, 1) := by decide +kernel
theorem dX5_lose_19 : decode cX5_lose 19 = .ok (.goto 4, 3) := by decide +kernel
theorem dX5_lose_22 : decode cX5_lose 22 = .ok (.iconst 1, 1) := by decide +kernel
theorem dX5_lose_23 : decode cX5_lose 23 = .ok (.istore_n 2, 1) := by decide +kernel
theorem dX5_lose_24 : decode cX5_lose 24 = .ok (.aload_n 0, 1) := by decide +kernel
theorem dX5_lose_25 : decode cX5_lose 25 = .ok (.getfield 40, 3) := by decide +kernel
theorem dX5_lose_28 : decode cX5_lose 28 = .ok (.iload_n 1, 1) := by decide +kernel
theorem dX5_lose_29 : decode cX5_lose 29 = .ok (.iconst (-1), 1) := by decide +kernel
theorem dX5_lose_30 : decode cX5_lose 30 = .ok (.iastore, 1) := by decide +kernel
theorem dX5_lose_31 : decode cX5_lose 31 = .ok (.iload_n 2, 1) := by decide +kernel
theorem dX5_lose_32 : decode cX5_lose 32 = .ok (.ireturn, 1) := by decide +kernel
set_option maxRecDepth 20000 in
theorem tkX5_lose : ∀ q ∈ tbX5_lose, xOk (Zm false yX5_lose.name) RX5 cX5_lose 3 (some .int) pT pY q :=
  fa_c (ok_p (xg_load _ _ _) (x_iload_n dX5_lose_0 rfl)) <|
  fa_c (ok_c pT_179 pY_179 (x_callS (n := 1) rfl kw785 kw786 kw63 kw787 (by decide +kernel) dX5_lose_1)) <|
  fa_c (ok_p (xg_if _ _ _) (x_if_eq dX5_lose_4 (by decide))) <|
  fa_c (ok_p (xg_st _ _) (x_iconst dX5_lose_7 rfl)) <|
  fa_c (ok_r ⟨rfl, dX5_lose_8⟩) <|
  fa_c (ok_p (xg_load _ _ _) (x_aload_n dX5_lose_9 rfl)) <|
  fa_c (ok_p (xg_getf _ _ _) (x_getf (C := RX5) (T := TX5) (N := 34) rfl (by decide) inX5 kw707 dX5_lose_10)) <|
  fa_c (ok_p (xg_load _ _ _) (x_iload_n dX5_lose_13 rfl)) <|
  fa_c (ok_p (xg_iald _) (x_iald dX5_lose_14)) <|
  fa_c (ok_p (xg_if _ _ _) (x_if_ge dX5_lose_15 (by decide))) <|
  fa_c (ok_p (xg_st _ _) (x_iconst dX5_lose_18 rfl)) <|
  fa_c (ok_p (xg_st _ _) (x_goto dX5_lose_19 (by decide))) <|
  fa_c (ok_p (xg_st _ _) (x_iconst dX5_lose_22 rfl)) <|
  fa_c (ok_p (xg_store _ _ _) (x_istore_n dX5_lose_23 rfl)) <|
  fa_c (ok_p (xg_load _ _ _) (x_aload_n dX5_lose_24 rfl)) <|
  fa_c (ok_p (xg_getf _ _ _) (x_getf (C := RX5) (T := TX5) (N := 34) rfl (by decide) inX5 kw707 dX5_lose_25)) <|
  fa_c (ok_p (xg_load _ _ _) (x_iload_n dX5_lose_28 rfl)) <|
  fa_c (ok_p (xg_st _ _) (x_iconst dX5_lose_29 rfl)) <|
  fa_c (ok_p (xg_iast _) (x_iast dX5_lose_30)) <|
  fa_c (ok_p (xg_load _ _ _) (x_iload_n dX5_lose_31 rfl)) <|
  fa_c (ok_r ⟨rfl, dX5_lose_32⟩) <|
  fa_n
theorem dX5_noCell_0 : decode cX5_noCell 0 = .ok (.aload_n 0, 1) := by decide +kernel
theorem dX5_noCell_1 : decode cX5_noCell 1 = .ok (.getfield 40, 3) := by decide +kernel
theorem dX5_noCell_4 : decode cX5_noCell 4 = .ok (.iload_n 1, 1) := by decide +kernel
theorem dX5_noCell_5 : decode cX5_noCell 5 = .ok (.iaload, 1) := by decide +kernel
theorem dX5_noCell_6 : decode cX5_noCell 6 = .ok (.ifCond .ge 7, 3) := by decide +kernel
theorem dX5_noCell_9 : decode cX5_noCell 9 = .ok (.iconst 1, 1) := by decide +kernel
theorem dX5_noCell_10 : decode cX5_noCell 10 = .ok (.goto 26, 3) := by decide +kernel
theorem dX5_noCell_13 : decode cX5_noCell 13 = .ok (.iload_n 2, 1) := by decide +kernel
theorem dX5_noCell_14 : decode cX5_noCell 14 = .ok (.i2l, 1) := by decide +kernel
theorem dX5_noCell_15 : decode cX5_noCell 15 = .ok (.lconst 0, 1) := by decide +kernel
theorem dX5_noCell_16 : decode cX5_noCell 16 = .ok (.aload_n 0, 1) := by decide +kernel
theorem dX5_noCell_17 : decode cX5_noCell 17 = .ok (.getfield 40, 3) := by decide +kernel
theorem dX5_noCell_20 : decode cX5_noCell 20 = .ok (.iload_n 1, 1) := by decide +kernel
theorem dX5_noCell_21 : decode cX5_noCell 21 = .ok (.iaload, 1) := by decide +kernel
theorem dX5_noCell_22 : decode cX5_noCell 22 = .ok (.i2l, 1) := by decide +kernel
theorem dX5_noCell_23 : decode cX5_noCell 23 = .ok (.lconst 1, 1) := by decide +kernel
theorem dX5_noCell_24 : decode cX5_noCell 24 = .ok (.lsub, 1) := by decide +kernel
theorem dX5_noCell_25 : decode cX5_noCell 25 = .ok (.invokestatic 65, 3) := by decide +kernel
theorem dX5_noCell_28 : decode cX5_noCell 28 = .ok (.ifCond .eq 7, 3) := by decide +kernel
theorem dX5_noCell_31 : decode cX5_noCell 31 = .ok (.iconst 0, 1) := by decide +kernel
theorem dX5_noCell_32 : decode cX5_noCell 32 = .ok (.goto 4, 3) := by decide +kernel
theorem dX5_noCell_35 : decode cX5_noCell 35 = .ok (.iconst 3, 1) := by decide +kernel
theorem dX5_noCell_36 : decode cX5_noCell 36 = .ok (.ireturn, 1) := by decide +kernel
set_option maxRecDepth 20000 in
theorem tkX5_noCell : ∀ q ∈ tbX5_noCell, xOk (Zm false yX5_noCell.name) RX5 cX5_noCell 3 (some .int) pT pY q :=
  fa_c (ok_p (xg_load _ _ _) (x_aload_n dX5_noCell_0 rfl)) <|
  fa_c (ok_p (xg_getf _ _ _) (x_getf (C := RX5) (T := TX5) (N := 34) rfl (by decide) inX5 kw707 dX5_noCell_1)) <|
  fa_c (ok_p (xg_load _ _ _) (x_iload_n dX5_noCell_4 rfl)) <|
  fa_c (ok_p (xg_iald _) (x_iald dX5_noCell_5)) <|
  fa_c (ok_p (xg_if _ _ _) (x_if_ge dX5_noCell_6 (by decide))) <|
  fa_c (ok_p (xg_st _ _) (x_iconst dX5_noCell_9 rfl)) <|
  fa_c (ok_p (xg_st _ _) (x_goto dX5_noCell_10 (by decide))) <|
  fa_c (ok_p (xg_load _ _ _) (x_iload_n dX5_noCell_13 rfl)) <|
  fa_c (ok_p (xg_st _ _) (x_i2l dX5_noCell_14)) <|
  fa_c (ok_p (xg_st _ _) (x_lconst dX5_noCell_15 rfl)) <|
  fa_c (ok_p (xg_load _ _ _) (x_aload_n dX5_noCell_16 rfl)) <|
  fa_c (ok_p (xg_getf _ _ _) (x_getf (C := RX5) (T := TX5) (N := 34) rfl (by decide) inX5 kw707 dX5_noCell_17)) <|
  fa_c (ok_p (xg_load _ _ _) (x_iload_n dX5_noCell_20 rfl)) <|
  fa_c (ok_p (xg_iald _) (x_iald dX5_noCell_21)) <|
  fa_c (ok_p (xg_st _ _) (x_i2l dX5_noCell_22)) <|
  fa_c (ok_p (xg_st _ _) (x_lconst dX5_noCell_23 rfl)) <|
  fa_c (ok_p (xg_st _ _) (x_lsub dX5_noCell_24)) <|
  fa_c (ok_c pT_122 pY_122 (x_callS (n := 3) rfl kw789 kw790 kw63 kw791 (by decide +kernel) dX5_noCell_25)) <|
  fa_c (ok_p (xg_if _ _ _) (x_if_eq dX5_noCell_28 (by decide))) <|
  fa_c (ok_p (xg_st _ _) (x_iconst dX5_noCell_31 rfl)) <|
  fa_c (ok_p (xg_st _ _) (x_goto dX5_noCell_32 (by decide))) <|
  fa_c (ok_p (xg_st _ _) (x_iconst dX5_noCell_35 rfl)) <|
  fa_c (ok_r ⟨rfl, dX5_noCell_36⟩) <|
  fa_n
theorem dX5_put_0 : decode cX5_put 0 = .ok (.iload_n 1, 1) := by decide +kernel
theorem dX5_put_1 : decode cX5_put 1 = .ok (.invokestatic 116, 3) := by decide +kernel
theorem dX5_put_4 : decode cX5_put 4 = .ok (.ifCond .eq 9, 3) := by decide +kernel
theorem dX5_put_7 : decode cX5_put 7 = .ok (.aload_n 0, 1) := by decide +kernel
theorem dX5_put_8 : decode cX5_put 8 = .ok (.iconst (-1), 1) := by decide +kernel
theorem dX5_put_9 : decode cX5_put 9 = .ok (.invokevirtual 120, 3) := by decide +kernel
theorem dX5_put_12 : decode cX5_put 12 = .ok (.ireturn, 1) := by decide +kernel
theorem dX5_put_13 : decode cX5_put 13 = .ok (.aload_n 0, 1) := by decide +kernel
theorem dX5_put_14 : decode cX5_put 14 = .ok (.iload_n 1, 1) := by decide +kernel
theorem dX5_put_15 : decode cX5_put 15 = .ok (.iload_n 2, 1) := by decide +kernel
theorem dX5_put_16 : decode cX5_put 16 = .ok (.invokevirtual 262, 3) := by decide +kernel
theorem dX5_put_19 : decode cX5_put 19 = .ok (.ifCond .le 14, 3) := by decide +kernel
theorem dX5_put_22 : decode cX5_put 22 = .ok (.aload_n 0, 1) := by decide +kernel
theorem dX5_put_23 : decode cX5_put 23 = .ok (.aload_n 0, 1) := by decide +kernel
theorem dX5_put_24 : decode cX5_put 24 = .ok (.iload_n 1, 1) := by decide +kernel
theorem dX5_put_25 : decode cX5_put 25 = .ok (.iload_n 2, 1) := by decide +kernel
theorem dX5_put_26 : decode cX5_put 26 = .ok (.invokevirtual 262, 3) := by decide +kernel
theorem dX5_put_29 : decode cX5_put 29 = .ok (.invokevirtual 108, 3) := by decide +kernel
theorem dX5_put_32 : decode cX5_put 32 = .ok (.ireturn, 1) := by decide +kernel
theorem dX5_put_33 : decode cX5_put 33 = .ok (.aload_n 0, 1) := by decide +kernel
theorem dX5_put_34 : decode cX5_put 34 = .ok (.getfield 46, 3) := by decide +kernel
theorem dX5_put_37 : decode cX5_put 37 = .ok (.bipush 60, 2) := by decide +kernel
theorem dX5_put_39 : decode cX5_put 39 = .ok (.iload_n 1, 1) := by decide +kernel
theorem dX5_put_40 : decode cX5_put 40 = .ok (.imul, 1) := by decide +kernel
theorem dX5_put_41 : decode cX5_put 41 = .ok (.iload_n 2, 1) := by decide +kernel
theorem dX5_put_42 : decode cX5_put 42 = .ok (.iadd, 1) := by decide +kernel
theorem dX5_put_43 : decode cX5_put 43 = .ok (.aload_n 0, 1) := by decide +kernel
theorem dX5_put_44 : decode cX5_put 44 = .ok (.getfield 43, 3) := by decide +kernel
theorem dX5_put_47 : decode cX5_put 47 = .ok (.iload_n 1, 1) := by decide +kernel
theorem dX5_put_48 : decode cX5_put 48 = .ok (.iaload, 1) := by decide +kernel
theorem dX5_put_49 : decode cX5_put 49 = .ok (.ifCond .ne 8, 3) := by decide +kernel
theorem dX5_put_52 : decode cX5_put 52 = .ok (.iload_n 3, 1) := by decide +kernel
theorem dX5_put_53 : decode cX5_put 53 = .ok (.i2b, 1) := by decide +kernel
theorem dX5_put_54 : decode cX5_put 54 = .ok (.goto 19, 3) := by decide +kernel
theorem dX5_put_57 : decode cX5_put 57 = .ok (.aload_n 0, 1) := by decide +kernel
theorem dX5_put_58 : decode cX5_put 58 = .ok (.getfield 43, 3) := by decide +kernel
theorem dX5_put_61 : decode cX5_put 61 = .ok (.iload_n 1, 1) := by decide +kernel
theorem dX5_put_62 : decode cX5_put 62 = .ok (.iaload, 1) := by decide +kernel
theorem dX5_put_63 : decode cX5_put 63 = .ok (.iconst 1, 1) := by decide +kernel
theorem dX5_put_64 : decode cX5_put 64 = .ok (.if_icmp .ne 8, 3) := by decide +kernel
theorem dX5_put_67 : decode cX5_put 67 = .ok (.iload_n 3, 1) := by decide +kernel
theorem dX5_put_68 : decode cX5_put 68 = .ok (.i2s, 1) := by decide +kernel
theorem dX5_put_69 : decode cX5_put 69 = .ok (.goto 4, 3) := by decide +kernel
theorem dX5_put_72 : decode cX5_put 72 = .ok (.iload_n 3, 1) := by decide +kernel
theorem dX5_put_73 : decode cX5_put 73 = .ok (.iastore, 1) := by decide +kernel
theorem dX5_put_74 : decode cX5_put 74 = .ok (.aload_n 0, 1) := by decide +kernel
theorem dX5_put_75 : decode cX5_put 75 = .ok (.iconst 1, 1) := by decide +kernel
theorem dX5_put_76 : decode cX5_put 76 = .ok (.invokevirtual 120, 3) := by decide +kernel
theorem dX5_put_79 : decode cX5_put 79 = .ok (.ireturn, 1) := by decide +kernel
set_option maxRecDepth 20000 in
theorem tkX5_put : ∀ q ∈ tbX5_put, xOk (Zm false yX5_put.name) RX5 cX5_put 4 (some .int) pT pY q :=
  fa_c (ok_p (xg_load _ _ _) (x_iload_n dX5_put_0 rfl)) <|
  fa_c (ok_c pT_179 pY_179 (x_callS (n := 1) rfl kw785 kw786 kw63 kw787 (by decide +kernel) dX5_put_1)) <|
  fa_c (ok_p (xg_if _ _ _) (x_if_eq dX5_put_4 (by decide))) <|
  fa_c (ok_p (xg_load _ _ _) (x_aload_n dX5_put_7 rfl)) <|
  fa_c (ok_p (xg_st _ _) (x_iconst dX5_put_8 rfl)) <|
  fa_c (ok_c pT_127 pY_127 (x_callV (n := 1) (C := RX5) (T := TX5) (N := 34) rfl rfl kw792 kw794 kw26 kw63 kw795 (by decide +kernel) dX5_put_9)) <|
  fa_c (ok_r ⟨rfl, dX5_put_12⟩) <|
  fa_c (ok_p (xg_load _ _ _) (x_aload_n dX5_put_13 rfl)) <|
  fa_c (ok_p (xg_load _ _ _) (x_iload_n dX5_put_14 rfl)) <|
  fa_c (ok_p (xg_load _ _ _) (x_iload_n dX5_put_15 rfl)) <|
  fa_c (ok_c pT_182 pY_182 (x_callV (n := 2) (C := RX5) (T := TX5) (N := 34) rfl rfl kw1026 kw1028 kw55 kw63 kw1029 (by decide +kernel) dX5_put_16)) <|
  fa_c (ok_p (xg_if _ _ _) (x_if_le dX5_put_19 (by decide))) <|
  fa_c (ok_p (xg_load _ _ _) (x_aload_n dX5_put_22 rfl)) <|
  fa_c (ok_p (xg_load _ _ _) (x_aload_n dX5_put_23 rfl)) <|
  fa_c (ok_p (xg_load _ _ _) (x_iload_n dX5_put_24 rfl)) <|
  fa_c (ok_p (xg_load _ _ _) (x_iload_n dX5_put_25 rfl)) <|
  fa_c (ok_c pT_182 pY_182 (x_callV (n := 2) (C := RX5) (T := TX5) (N := 34) rfl rfl kw1026 kw1028 kw55 kw63 kw1029 (by decide +kernel) dX5_put_26)) <|
  fa_c (ok_c pT_128 pY_128 (x_callV (n := 1) (C := RX5) (T := TX5) (N := 34) rfl rfl kw801 kw803 kw28 kw63 kw804 (by decide +kernel) dX5_put_29)) <|
  fa_c (ok_r ⟨rfl, dX5_put_32⟩) <|
  fa_c (ok_p (xg_load _ _ _) (x_aload_n dX5_put_33 rfl)) <|
  fa_c (ok_p (xg_getf _ _ _) (x_getf (C := RX5) (T := TX5) (N := 34) rfl (by decide) inX5 kw709 dX5_put_34)) <|
  fa_c (ok_p (xg_st _ _) (x_bipush dX5_put_37 rfl)) <|
  fa_c (ok_p (xg_load _ _ _) (x_iload_n dX5_put_39 rfl)) <|
  fa_c (ok_p (xg_st _ _) (x_imul dX5_put_40)) <|
  fa_c (ok_p (xg_load _ _ _) (x_iload_n dX5_put_41 rfl)) <|
  fa_c (ok_p (xg_st _ _) (x_iadd dX5_put_42)) <|
  fa_c (ok_p (xg_load _ _ _) (x_aload_n dX5_put_43 rfl)) <|
  fa_c (ok_p (xg_getf _ _ _) (x_getf (C := RX5) (T := TX5) (N := 34) rfl (by decide) inX5 kw708 dX5_put_44)) <|
  fa_c (ok_p (xg_load _ _ _) (x_iload_n dX5_put_47 rfl)) <|
  fa_c (ok_p (xg_iald _) (x_iald dX5_put_48)) <|
  fa_c (ok_p (xg_if _ _ _) (x_if_ne dX5_put_49 (by decide))) <|
  fa_c (ok_p (xg_load _ _ _) (x_iload_n dX5_put_52 rfl)) <|
  fa_c (ok_p (xg_st _ _) (x_i2b dX5_put_53)) <|
  fa_c (ok_p (xg_st _ _) (x_goto dX5_put_54 (by decide))) <|
  fa_c (ok_p (xg_load _ _ _) (x_aload_n dX5_put_57 rfl)) <|
  fa_c (ok_p (xg_getf _ _ _) (x_getf (C := RX5) (T := TX5) (N := 34) rfl (by decide) inX5 kw708 dX5_put_58)) <|
  fa_c (ok_p (xg_load _ _ _) (x_iload_n dX5_put_61 rfl)) <|
  fa_c (ok_p (xg_iald _) (x_iald dX5_put_62)) <|
  fa_c (ok_p (xg_st _ _) (x_iconst dX5_put_63 rfl)) <|
  fa_c (ok_p (xg_icmp _ _ _) (x_icmp_ne dX5_put_64 (by decide))) <|
  fa_c (ok_p (xg_load _ _ _) (x_iload_n dX5_put_67 rfl)) <|
  fa_c (ok_p (xg_st _ _) (x_i2s dX5_put_68)) <|
  fa_c (ok_p (xg_st _ _) (x_goto dX5_put_69 (by decide))) <|
  fa_c (ok_p (xg_load _ _ _) (x_iload_n dX5_put_72 rfl)) <|
  fa_c (ok_p (xg_iast _) (x_iast dX5_put_73)) <|
  fa_c (ok_p (xg_load _ _ _) (x_aload_n dX5_put_74 rfl)) <|
  fa_c (ok_p (xg_st _ _) (x_iconst dX5_put_75 rfl)) <|
  fa_c (ok_c pT_127 pY_127 (x_callV (n := 1) (C := RX5) (T := TX5) (N := 34) rfl rfl kw792 kw794 kw26 kw63 kw795 (by decide +kernel) dX5_put_76)) <|
  fa_c (ok_r ⟨rfl, dX5_put_79⟩) <|
  fa_n
theorem dX5_cell_0 : decode cX5_cell 0 = .ok (.aload_n 0, 1) := by decide +kernel
theorem dX5_cell_1 : decode cX5_cell 1 = .ok (.iconst 0, 1) := by decide +kernel
theorem dX5_cell_2 : decode cX5_cell 2 = .ok (.putfield 54, 3) := by decide +kernel
theorem dX5_cell_5 : decode cX5_cell 5 = .ok (.iload_n 1, 1) := by decide +kernel
theorem dX5_cell_6 : decode cX5_cell 6 = .ok (.invokestatic 116, 3) := by decide +kernel
theorem dX5_cell_9 : decode cX5_cell 9 = .ok (.ifCond .ne 15, 3) := by decide +kernel
theorem dX5_cell_12 : decode cX5_cell 12 = .ok (.iload_n 3, 1) := by decide +kernel
theorem dX5_cell_13 : decode cX5_cell 13 = .ok (.i2l, 1) := by decide +kernel
theorem dX5_cell_14 : decode cX5_cell 14 = .ok (.lconst 0, 1) := by decide +kernel
theorem dX5_cell_15 : decode cX5_cell 15 = .ok (.ldc2_w 123, 3) := by decide +kernel
theorem dX5_cell_18 : decode cX5_cell 18 = .ok (.invokestatic 65, 3) := by decide +kernel
theorem dX5_cell_21 : decode cX5_cell 21 = .ok (.ifCond .ne 7, 3) := by decide +kernel
theorem dX5_cell_24 : decode cX5_cell 24 = .ok (.invokestatic 58, 3) := by decide +kernel
theorem dX5_cell_27 : decode cX5_cell 27 = .ok (.lreturn, 1) := by decide +kernel
theorem dX5_cell_28 : decode cX5_cell 28 = .ok (.aload_n 0, 1) := by decide +kernel
theorem dX5_cell_29 : decode cX5_cell 29 = .ok (.getfield 40, 3) := by decide +kernel
theorem dX5_cell_32 : decode cX5_cell 32 = .ok (.iload_n 1, 1) := by decide +kernel
theorem dX5_cell_33 : decode cX5_cell 33 = .ok (.iaload, 1) := by decide +kernel
theorem dX5_cell_34 : decode cX5_cell 34 = .ok (.ifCond .lt 19, 3) := by decide +kernel
theorem dX5_cell_37 : decode cX5_cell 37 = .ok (.aload_n 0, 1) := by decide +kernel
theorem dX5_cell_38 : decode cX5_cell 38 = .ok (.getfield 43, 3) := by decide +kernel
theorem dX5_cell_41 : decode cX5_cell 41 = .ok (.iload_n 1, 1) := by decide +kernel
theorem dX5_cell_42 : decode cX5_cell 42 = .ok (.iaload, 1) := by decide +kernel
theorem dX5_cell_43 : decode cX5_cell 43 = .ok (.iload_n 3, 1) := by decide +kernel
theorem dX5_cell_44 : decode cX5_cell 44 = .ok (.if_icmp .eq 9, 3) := by decide +kernel
theorem dX5_cell_47 : decode cX5_cell 47 = .ok (.aload_n 0, 1) := by decide +kernel
theorem dX5_cell_48 : decode cX5_cell 48 = .ok (.iconst 2, 1) := by decide +kernel
theorem dX5_cell_49 : decode cX5_cell 49 = .ok (.invokevirtual 265, 3) := by decide +kernel
theorem dX5_cell_52 : decode cX5_cell 52 = .ok (.lreturn, 1) := by decide +kernel
theorem dX5_cell_53 : decode cX5_cell 53 = .ok (.aload_n 0, 1) := by decide +kernel
theorem dX5_cell_54 : decode cX5_cell 54 = .ok (.iload_n 1, 1) := by decide +kernel
theorem dX5_cell_55 : decode cX5_cell 55 = .ok (.iload_n 2, 1) := by decide +kernel
theorem dX5_cell_56 : decode cX5_cell 56 = .ok (.invokevirtual 262, 3) := by decide +kernel
theorem dX5_cell_59 : decode cX5_cell 59 = .ok (.ifCond .le 16, 3) := by decide +kernel
theorem dX5_cell_62 : decode cX5_cell 62 = .ok (.aload_n 0, 1) := by decide +kernel
theorem dX5_cell_63 : decode cX5_cell 63 = .ok (.aload_n 0, 1) := by decide +kernel
theorem dX5_cell_64 : decode cX5_cell 64 = .ok (.iload_n 1, 1) := by decide +kernel
theorem dX5_cell_65 : decode cX5_cell 65 = .ok (.iload_n 2, 1) := by decide +kernel
theorem dX5_cell_66 : decode cX5_cell 66 = .ok (.invokevirtual 262, 3) := by decide +kernel
theorem dX5_cell_69 : decode cX5_cell 69 = .ok (.invokevirtual 265, 3) := by decide +kernel
theorem dX5_cell_72 : decode cX5_cell 72 = .ok (.goto 15, 3) := by decide +kernel
theorem dX5_cell_75 : decode cX5_cell 75 = .ok (.aload_n 0, 1) := by decide +kernel
theorem dX5_cell_76 : decode cX5_cell 76 = .ok (.getfield 46, 3) := by decide +kernel
theorem dX5_cell_79 : decode cX5_cell 79 = .ok (.bipush 60, 2) := by decide +kernel
theorem dX5_cell_81 : decode cX5_cell 81 = .ok (.iload_n 1, 1) := by decide +kernel
theorem dX5_cell_82 : decode cX5_cell 82 = .ok (.imul, 1) := by decide +kernel
theorem dX5_cell_83 : decode cX5_cell 83 = .ok (.iload_n 2, 1) := by decide +kernel
theorem dX5_cell_84 : decode cX5_cell 84 = .ok (.iadd, 1) := by decide +kernel
theorem dX5_cell_85 : decode cX5_cell 85 = .ok (.iaload, 1) := by decide +kernel
theorem dX5_cell_86 : decode cX5_cell 86 = .ok (.i2l, 1) := by decide +kernel
theorem dX5_cell_87 : decode cX5_cell 87 = .ok (.lreturn, 1) := by decide +kernel
set_option maxRecDepth 20000 in
theorem tkX5_cell : ∀ q ∈ tbX5_cell, xOk (Zm false yX5_cell.name) RX5 cX5_cell 4 (some .long) pT pY q :=
  fa_c (ok_p (xg_load _ _ _) (x_aload_n dX5_cell_0 rfl)) <|
  fa_c (ok_p (xg_st _ _) (x_iconst dX5_cell_1 rfl)) <|
  fa_c (ok_p (xg_putf _ _ _ _) (x_putfof (C := RX5) (T := TX5) (N := 34) tyX5 tyX5_ok nmX5 rfl (by decide) inX5 kw678 dX5_cell_2 (tyX5_ok 0 (by decide)) (fun _ _ _ _ _ _ => Or.inl rfl))) <|
  fa_c (ok_p (xg_load _ _ _) (x_iload_n dX5_cell_5 rfl)) <|
  fa_c (ok_c pT_179 pY_179 (x_callS (n := 1) rfl kw785 kw786 kw63 kw787 (by decide +kernel) dX5_cell_6)) <|
  fa_c (ok_p (xg_if _ _ _) (x_if_ne dX5_cell_9 (by decide))) <|
  fa_c (ok_p (xg_load _ _ _) (x_iload_n dX5_cell_12 rfl)) <|
  fa_c (ok_p (xg_st _ _) (x_i2l dX5_cell_13)) <|
  fa_c (ok_p (xg_st _ _) (x_lconst dX5_cell_14 rfl)) <|
  fa_c (ok_p (xg_st _ _) (x_ldc2 dX5_cell_15 kw796)) <|
  fa_c (ok_c pT_122 pY_122 (x_callS (n := 3) rfl kw789 kw790 kw63 kw791 (by decide +kernel) dX5_cell_18)) <|
  fa_c (ok_p (xg_if _ _ _) (x_if_ne dX5_cell_21 (by decide))) <|
  fa_c (ok_c pT_123 pY_123 (x_callS (n := 0) rfl kw883 kw884 kw63 kw885 (by decide +kernel) dX5_cell_24)) <|
  fa_c (ok_r ⟨rfl, dX5_cell_27⟩) <|
  fa_c (ok_p (xg_load _ _ _) (x_aload_n dX5_cell_28 rfl)) <|
  fa_c (ok_p (xg_getf _ _ _) (x_getf (C := RX5) (T := TX5) (N := 34) rfl (by decide) inX5 kw707 dX5_cell_29)) <|
  fa_c (ok_p (xg_load _ _ _) (x_iload_n dX5_cell_32 rfl)) <|
  fa_c (ok_p (xg_iald _) (x_iald dX5_cell_33)) <|
  fa_c (ok_p (xg_if _ _ _) (x_if_lt dX5_cell_34 (by decide))) <|
  fa_c (ok_p (xg_load _ _ _) (x_aload_n dX5_cell_37 rfl)) <|
  fa_c (ok_p (xg_getf _ _ _) (x_getf (C := RX5) (T := TX5) (N := 34) rfl (by decide) inX5 kw708 dX5_cell_38)) <|
  fa_c (ok_p (xg_load _ _ _) (x_iload_n dX5_cell_41 rfl)) <|
  fa_c (ok_p (xg_iald _) (x_iald dX5_cell_42)) <|
  fa_c (ok_p (xg_load _ _ _) (x_iload_n dX5_cell_43 rfl)) <|
  fa_c (ok_p (xg_icmp _ _ _) (x_icmp_eq dX5_cell_44 (by decide))) <|
  fa_c (ok_p (xg_load _ _ _) (x_aload_n dX5_cell_47 rfl)) <|
  fa_c (ok_p (xg_st _ _) (x_iconst dX5_cell_48 rfl)) <|
  fa_c (ok_c pT_129 pY_129 (x_callV (n := 1) (C := RX5) (T := TX5) (N := 34) rfl rfl kw1034 kw1036 kw56 kw63 kw1037 (by decide +kernel) dX5_cell_49)) <|
  fa_c (ok_r ⟨rfl, dX5_cell_52⟩) <|
  fa_c (ok_p (xg_load _ _ _) (x_aload_n dX5_cell_53 rfl)) <|
  fa_c (ok_p (xg_load _ _ _) (x_iload_n dX5_cell_54 rfl)) <|
  fa_c (ok_p (xg_load _ _ _) (x_iload_n dX5_cell_55 rfl)) <|
  fa_c (ok_c pT_182 pY_182 (x_callV (n := 2) (C := RX5) (T := TX5) (N := 34) rfl rfl kw1026 kw1028 kw55 kw63 kw1029 (by decide +kernel) dX5_cell_56)) <|
  fa_c (ok_p (xg_if _ _ _) (x_if_le dX5_cell_59 (by decide))) <|
  fa_c (ok_p (xg_load _ _ _) (x_aload_n dX5_cell_62 rfl)) <|
  fa_c (ok_p (xg_load _ _ _) (x_aload_n dX5_cell_63 rfl)) <|
  fa_c (ok_p (xg_load _ _ _) (x_iload_n dX5_cell_64 rfl)) <|
  fa_c (ok_p (xg_load _ _ _) (x_iload_n dX5_cell_65 rfl)) <|
  fa_c (ok_c pT_182 pY_182 (x_callV (n := 2) (C := RX5) (T := TX5) (N := 34) rfl rfl kw1026 kw1028 kw55 kw63 kw1029 (by decide +kernel) dX5_cell_66)) <|
  fa_c (ok_c pT_129 pY_129 (x_callV (n := 1) (C := RX5) (T := TX5) (N := 34) rfl rfl kw1034 kw1036 kw56 kw63 kw1037 (by decide +kernel) dX5_cell_69)) <|
  fa_c (ok_p (xg_st _ _) (x_goto dX5_cell_72 (by decide))) <|
  fa_c (ok_p (xg_load _ _ _) (x_aload_n dX5_cell_75 rfl)) <|
  fa_c (ok_p (xg_getf _ _ _) (x_getf (C := RX5) (T := TX5) (N := 34) rfl (by decide) inX5 kw709 dX5_cell_76)) <|
  fa_c (ok_p (xg_st _ _) (x_bipush dX5_cell_79 rfl)) <|
  fa_c (ok_p (xg_load _ _ _) (x_iload_n dX5_cell_81 rfl)) <|
  fa_c (ok_p (xg_st _ _) (x_imul dX5_cell_82)) <|
  fa_c (ok_p (xg_load _ _ _) (x_iload_n dX5_cell_83 rfl)) <|
  fa_c (ok_p (xg_st _ _) (x_iadd dX5_cell_84)) <|
  fa_c (ok_p (xg_iald _) (x_iald dX5_cell_85)) <|
  fa_c (ok_p (xg_st _ _) (x_i2l dX5_cell_86)) <|
  fa_c (ok_r ⟨rfl, dX5_cell_87⟩) <|
  fa_n
theorem dX5_isBeyond_0 : decode cX5_isBeyond 0 = .ok (.iload_n 0, 1) := by decide +kernel
theorem dX5_isBeyond_1 : decode cX5_isBeyond 1 = .ok (.ifCond .lt 19, 3) := by decide +kernel
theorem dX5_isBeyond_4 : decode cX5_isBeyond 4 = .ok (.lload_n 1, 1) := by decide +kernel
theorem dX5_isBeyond_5 : decode cX5_isBeyond 5 = .ok (.lconst 0, 1) := by decide +kernel
theorem dX5_isBeyond_6 : decode cX5_isBeyond 6 = .ok (.lcmp, 1) := by decide +kernel
theorem dX5_isBeyond_7 : decode cX5_isBeyond 7 = .ok (.ifCond .lt 13, 3) := by decide +kernel
theorem dX5_isBeyond_10 : decode cX5_isBeyond 10 = .ok (.iload_n 0, 1) := by decide +kernel
theorem dX5_isBeyond_11 : decode cX5_isBeyond 11 = .ok (.i2l, 1) := by decide +kernel
theorem dX5_isBeyond_12 : decode cX5_isBeyond 12 = .ok (.lload_n 1, 1) := by decide +kernel
theorem dX5_isBeyond_13 : decode cX5_isBeyond 13 = .ok (.ladd, 1) := by decide +kernel
theorem dX5_isBeyond_14 : decode cX5_isBeyond 14 = .ok (.iload_n 3, 1) := by decide +kernel
theorem dX5_isBeyond_15 : decode cX5_isBeyond 15 = .ok (.i2l, 1) := by decide +kernel
theorem dX5_isBeyond_16 : decode cX5_isBeyond 16 = .ok (.lcmp, 1) := by decide +kernel
theorem dX5_isBeyond_17 : decode cX5_isBeyond 17 = .ok (.ifCond .le 7, 3) := by decide +kernel
theorem dX5_isBeyond_20 : decode cX5_isBeyond 20 = .ok (.iconst 1, 1) := by decide +kernel
theorem dX5_isBeyond_21 : decode cX5_isBeyond 21 = .ok (.goto 4, 3) := by decide +kernel
theorem dX5_isBeyond_24 : decode cX5_isBeyond 24 = .ok (.iconst 0, 1) := by decide +kernel
theorem dX5_isBeyond_25 : decode cX5_isBeyond 25 = .ok (.ireturn, 1) := by decide +kernel
set_option maxRecDepth 20000 in
theorem tkX5_isBeyond : ∀ q ∈ tbX5_isBeyond, xOk (Zm false yX5_isBeyond.name) RX5 cX5_isBeyond 4 (some .boolean) pT pY q :=
  fa_c (ok_p (xg_load _ _ _) (x_iload_n dX5_isBeyond_0 rfl)) <|
  fa_c (ok_p (xg_if _ _ _) (x_if_lt dX5_isBeyond_1 (by decide))) <|
  fa_c (ok_p (xg_load _ _ _) (x_lload_n dX5_isBeyond_4 rfl)) <|
  fa_c (ok_p (xg_st _ _) (x_lconst dX5_isBeyond_5 rfl)) <|
  fa_c (ok_p (xg_st _ _) (x_lcmp dX5_isBeyond_6)) <|
  fa_c (ok_p (xg_if _ _ _) (x_if_lt dX5_isBeyond_7 (by decide))) <|
  fa_c (ok_p (xg_load _ _ _) (x_iload_n dX5_isBeyond_10 rfl)) <|
  fa_c (ok_p (xg_st _ _) (x_i2l dX5_isBeyond_11)) <|
  fa_c (ok_p (xg_load _ _ _) (x_lload_n dX5_isBeyond_12 rfl)) <|
  fa_c (ok_p (xg_st _ _) (x_ladd dX5_isBeyond_13)) <|
  fa_c (ok_p (xg_load _ _ _) (x_iload_n dX5_isBeyond_14 rfl)) <|
  fa_c (ok_p (xg_st _ _) (x_i2l dX5_isBeyond_15)) <|
  fa_c (ok_p (xg_st _ _) (x_lcmp dX5_isBeyond_16)) <|
  fa_c (ok_p (xg_if _ _ _) (x_if_le dX5_isBeyond_17 (by decide))) <|
  fa_c (ok_p (xg_st _ _) (x_iconst dX5_isBeyond_20 rfl)) <|
  fa_c (ok_p (xg_st _ _) (x_goto dX5_isBeyond_21 (by decide))) <|
  fa_c (ok_p (xg_st _ _) (x_iconst dX5_isBeyond_24 rfl)) <|
  fa_c (ok_r ⟨rfl, dX5_isBeyond_25⟩) <|
  fa_n
theorem dX5_copy_0 : decode cX5_copy 0 = .ok (.iload_n 1, 1) := by decide +kernel
theorem dX5_copy_1 : decode cX5_copy 1 = .ok (.invokestatic 116, 3) := by decide +kernel
theorem dX5_copy_4 : decode cX5_copy 4 = .ok (.ifCond .ne 10, 3) := by decide +kernel
theorem dX5_copy_7 : decode cX5_copy 7 = .ok (.iload_n 3, 1) := by decide +kernel
theorem dX5_copy_8 : decode cX5_copy 8 = .ok (.invokestatic 116, 3) := by decide +kernel
theorem dX5_copy_11 : decode cX5_copy 11 = .ok (.ifCond .eq 9, 3) := by decide +kernel
theorem dX5_copy_14 : decode cX5_copy 14 = .ok (.aload_n 0, 1) := by decide +kernel
theorem dX5_copy_15 : decode cX5_copy 15 = .ok (.iconst (-1), 1) := by decide +kernel
theorem dX5_copy_16 : decode cX5_copy 16 = .ok (.invokevirtual 120, 3) := by decide +kernel
theorem dX5_copy_19 : decode cX5_copy 19 = .ok (.ireturn, 1) := by decide +kernel
theorem dX5_copy_20 : decode cX5_copy 20 = .ok (.aload_n 0, 1) := by decide +kernel
theorem dX5_copy_21 : decode cX5_copy 21 = .ok (.getfield 40, 3) := by decide +kernel
theorem dX5_copy_24 : decode cX5_copy 24 = .ok (.iload_n 1, 1) := by decide +kernel
theorem dX5_copy_25 : decode cX5_copy 25 = .ok (.iaload, 1) := by decide +kernel
theorem dX5_copy_26 : decode cX5_copy 26 = .ok (.ifCond .lt 12, 3) := by decide +kernel
theorem dX5_copy_29 : decode cX5_copy 29 = .ok (.aload_n 0, 1) := by decide +kernel
theorem dX5_copy_30 : decode cX5_copy 30 = .ok (.getfield 40, 3) := by decide +kernel
theorem dX5_copy_33 : decode cX5_copy 33 = .ok (.iload_n 3, 1) := by decide +kernel
theorem dX5_copy_34 : decode cX5_copy 34 = .ok (.iaload, 1) := by decide +kernel
theorem dX5_copy_35 : decode cX5_copy 35 = .ok (.ifCond .ge 9, 3) := by decide +kernel
theorem dX5_copy_38 : decode cX5_copy 38 = .ok (.aload_n 0, 1) := by decide +kernel
theorem dX5_copy_39 : decode cX5_copy 39 = .ok (.iconst 1, 1) := by decide +kernel
theorem dX5_copy_40 : decode cX5_copy 40 = .ok (.invokevirtual 108, 3) := by decide +kernel
theorem dX5_copy_43 : decode cX5_copy 43 = .ok (.ireturn, 1) := by decide +kernel
theorem dX5_copy_44 : decode cX5_copy 44 = .ok (.aload_n 0, 1) := by decide +kernel
theorem dX5_copy_45 : decode cX5_copy 45 = .ok (.getfield 43, 3) := by decide +kernel
theorem dX5_copy_48 : decode cX5_copy 48 = .ok (.iload_n 1, 1) := by decide +kernel
theorem dX5_copy_49 : decode cX5_copy 49 = .ok (.iaload, 1) := by decide +kernel
theorem dX5_copy_50 : decode cX5_copy 50 = .ok (.aload_n 0, 1) := by decide +kernel
theorem dX5_copy_51 : decode cX5_copy 51 = .ok (.getfield 43, 3) := by decide +kernel
theorem dX5_copy_54 : decode cX5_copy 54 = .ok (.iload_n 3, 1) := by decide +kernel
theorem dX5_copy_55 : decode cX5_copy 55 = .ok (.iaload, 1) := by decide +kernel
theorem dX5_copy_56 : decode cX5_copy 56 = .ok (.if_icmp .eq 9, 3) := by decide +kernel
theorem dX5_copy_59 : decode cX5_copy 59 = .ok (.aload_n 0, 1) := by decide +kernel
theorem dX5_copy_60 : decode cX5_copy 60 = .ok (.iconst 2, 1) := by decide +kernel
theorem dX5_copy_61 : decode cX5_copy 61 = .ok (.invokevirtual 108, 3) := by decide +kernel
theorem dX5_copy_64 : decode cX5_copy 64 = .ok (.ireturn, 1) := by decide +kernel
theorem dX5_copy_65 : decode cX5_copy 65 = .ok (.iload_n 2, 1) := by decide +kernel
theorem dX5_copy_66 : decode cX5_copy 66 = .ok (.iload 5, 2) := by decide +kernel
theorem dX5_copy_68 : decode cX5_copy 68 = .ok (.i2l, 1) := by decide +kernel
theorem dX5_copy_69 : decode cX5_copy 69 = .ok (.aload_n 0, 1) := by decide +kernel
theorem dX5_copy_70 : decode cX5_copy 70 = .ok (.getfield 40, 3) := by decide +kernel
theorem dX5_copy_73 : decode cX5_copy 73 = .ok (.iload_n 1, 1) := by decide +kernel
theorem dX5_copy_74 : decode cX5_copy 74 = .ok (.iaload, 1) := by decide +kernel
theorem dX5_copy_75 : decode cX5_copy 75 = .ok (.invokestatic 112, 3) := by decide +kernel
theorem dX5_copy_78 : decode cX5_copy 78 = .ok (.ifCond .ne 20, 3) := by decide +kernel
theorem dX5_copy_81 : decode cX5_copy 81 = .ok (.iload 4, 2) := by decide +kernel
theorem dX5_copy_83 : decode cX5_copy 83 = .ok (.iload 5, 2) := by decide +kernel
theorem dX5_copy_85 : decode cX5_copy 85 = .ok (.i2l, 1) := by decide +kernel
theorem dX5_copy_86 : decode cX5_copy 86 = .ok (.aload_n 0, 1) := by decide +kernel
theorem dX5_copy_87 : decode cX5_copy 87 = .ok (.getfield 40, 3) := by decide +kernel
theorem dX5_copy_90 : decode cX5_copy 90 = .ok (.iload_n 3, 1) := by decide +kernel
theorem dX5_copy_91 : decode cX5_copy 91 = .ok (.iaload, 1) := by decide +kernel
theorem dX5_copy_92 : decode cX5_copy 92 = .ok (.invokestatic 112, 3) := by decide +kernel
theorem dX5_copy_95 : decode cX5_copy 95 = .ok (.ifCond .eq 9, 3) := by decide +kernel
theorem dX5_copy_98 : decode cX5_copy 98 = .ok (.aload_n 0, 1) := by decide +kernel
theorem dX5_copy_99 : decode cX5_copy 99 = .ok (.iconst 3, 1) := by decide +kernel
theorem dX5_copy_100 : decode cX5_copy 100 = .ok (.invokevirtual 108, 3) := by decide +kernel
theorem dX5_copy_103 : decode cX5_copy 103 = .ok (.ireturn, 1) := by decide +kernel
theorem dX5_copy_104 : decode cX5_copy 104 = .ok (.iconst 0, 1) := by decide +kernel
theorem dX5_copy_105 : decode cX5_copy 105 = .ok (.istore 6, 2) := by decide +kernel
theorem dX5_copy_107 : decode cX5_copy 107 = .ok (.iload 6, 2) := by decide +kernel
theorem dX5_copy_109 : decode cX5_copy 109 = .ok (.iload 5, 2) := by decide +kernel
theorem dX5_copy_111 : decode cX5_copy 111 = .ok (.if_icmp .ge 30, 3) := by decide +kernel
theorem dX5_copy_114 : decode cX5_copy 114 = .ok (.aload_n 0, 1) := by decide +kernel
theorem dX5_copy_115 : decode cX5_copy 115 = .ok (.getfield 49, 3) := by decide +kernel
theorem dX5_copy_118 : decode cX5_copy 118 = .ok (.iload 6, 2) := by decide +kernel
theorem dX5_copy_120 : decode cX5_copy 120 = .ok (.aload_n 0, 1) := by decide +kernel
theorem dX5_copy_121 : decode cX5_copy 121 = .ok (.getfield 46, 3) := by decide +kernel
theorem dX5_copy_124 : decode cX5_copy 124 = .ok (.bipush 60, 2) := by decide +kernel
theorem dX5_copy_126 : decode cX5_copy 126 = .ok (.iload_n 1, 1) := by decide +kernel
theorem dX5_copy_127 : decode cX5_copy 127 = .ok (.imul, 1) := by decide +kernel
theorem dX5_copy_128 : decode cX5_copy 128 = .ok (.iload_n 2, 1) := by decide +kernel
theorem dX5_copy_129 : decode cX5_copy 129 = .ok (.iadd, 1) := by decide +kernel
theorem dX5_copy_130 : decode cX5_copy 130 = .ok (.iload 6, 2) := by decide +kernel
theorem dX5_copy_132 : decode cX5_copy 132 = .ok (.iadd, 1) := by decide +kernel
theorem dX5_copy_133 : decode cX5_copy 133 = .ok (.iaload, 1) := by decide +kernel
theorem dX5_copy_134 : decode cX5_copy 134 = .ok (.iastore, 1) := by decide +kernel
theorem dX5_copy_135 : decode cX5_copy 135 = .ok (.iinc 6 1, 3) := by decide +kernel
theorem dX5_copy_138 : decode cX5_copy 138 = .ok (.goto (-31), 3) := by decide +kernel
theorem dX5_copy_141 : decode cX5_copy 141 = .ok (.iconst 0, 1) := by decide +kernel
theorem dX5_copy_142 : decode cX5_copy 142 = .ok (.istore 6, 2) := by decide +kernel
theorem dX5_copy_144 : decode cX5_copy 144 = .ok (.iload 6, 2) := by decide +kernel
theorem dX5_copy_146 : decode cX5_copy 146 = .ok (.iload 5, 2) := by decide +kernel
theorem dX5_copy_148 : decode cX5_copy 148 = .ok (.if_icmp .ge 31, 3) := by decide +kernel
theorem dX5_copy_151 : decode cX5_copy 151 = .ok (.aload_n 0, 1) := by decide +kernel
theorem dX5_copy_152 : decode cX5_copy 152 = .ok (.getfield 46, 3) := by decide +kernel
theorem dX5_copy_155 : decode cX5_copy 155 = .ok (.bipush 60, 2) := by decide +kernel
theorem dX5_copy_157 : decode cX5_copy 157 = .ok (.iload_n 3, 1) := by decide +kernel
theorem dX5_copy_158 : decode cX5_copy 158 = .ok (.imul, 1) := by decide +kernel
theorem dX5_copy_159 : decode cX5_copy 159 = .ok (.iload 4, 2) := by decide +kernel
theorem dX5_copy_161 : decode cX5_copy 161 = .ok (.iadd, 1) := by decide +kernel
theorem dX5_copy_162 : decode cX5_copy 162 = .ok (.iload 6, 2) := by decide +kernel
theorem dX5_copy_164 : decode cX5_copy 164 = .ok (.iadd, 1) := by decide +kernel
theorem dX5_copy_165 : decode cX5_copy 165 = .ok (.aload_n 0, 1) := by decide +kernel
theorem dX5_copy_166 : decode cX5_copy 166 = .ok (.getfield 49, 3) := by decide +kernel
theorem dX5_copy_169 : decode cX5_copy 169 = .ok (.iload 6, 2) := by decide +kernel
theorem dX5_copy_171 : decode cX5_copy 171 = .ok (.iaload, 1) := by decide +kernel
theorem dX5_copy_172 : decode cX5_copy 172 = .ok (.iastore, 1) := by decide +kernel
theorem dX5_copy_173 : decode cX5_copy 173 = .ok (.iinc 6 1, 3) := by decide +kernel
theorem dX5_copy_176 : decode cX5_copy 176 = .ok (.goto (-32), 3) := by decide +kernel
theorem dX5_copy_179 : decode cX5_copy 179 = .ok (.aload_n 0, 1) := by decide +kernel
theorem dX5_copy_180 : decode cX5_copy 180 = .ok (.iload 5, 2) := by decide +kernel
theorem dX5_copy_182 : decode cX5_copy 182 = .ok (.invokevirtual 120, 3) := by decide +kernel
theorem dX5_copy_185 : decode cX5_copy 185 = .ok (.ireturn, 1) := by decide +kernel
set_option maxRecDepth 20000 in
theorem tkX5_copy : ∀ q ∈ tbX5_copy, xOk (Zm false yX5_copy.name) RX5 cX5_copy 7 (some .int) pT pY q :=
  fa_c (ok_p (xg_load _ _ _) (x_iload_n dX5_copy_0 rfl)) <|
  fa_c (ok_c pT_179 pY_179 (x_callS (n := 1) rfl kw785 kw786 kw63 kw787 (by decide +kernel) dX5_copy_1)) <|
  fa_c (ok_p (xg_if _ _ _) (x_if_ne dX5_copy_4 (by decide))) <|
  fa_c (ok_p (xg_load _ _ _) (x_iload_n dX5_copy_7 rfl)) <|
  fa_c (ok_c pT_179 pY_179 (x_callS (n := 1) rfl kw785 kw786 kw63 kw787 (by decide +kernel) dX5_copy_8)) <|
  fa_c (ok_p (xg_if _ _ _) (x_if_eq dX5_copy_11 (by decide))) <|
  fa_c (ok_p (xg_load _ _ _) (x_aload_n dX5_copy_14 rfl)) <|
  fa_c (ok_p (xg_st _ _) (x_iconst dX5_copy_15 rfl)) <|
  fa_c (ok_c pT_127 pY_127 (x_callV (n := 1) (C := RX5) (T := TX5) (N := 34) rfl rfl kw792 kw794 kw26 kw63 kw795 (by decide +kernel) dX5_copy_16)) <|
  fa_c (ok_r ⟨rfl, dX5_copy_19⟩) <|
  fa_c (ok_p (xg_load _ _ _) (x_aload_n dX5_copy_20 rfl)) <|
  fa_c (ok_p (xg_getf _ _ _) (x_getf (C := RX5) (T := TX5) (N := 34) rfl (by decide) inX5 kw707 dX5_copy_21)) <|
  fa_c (ok_p (xg_load _ _ _) (x_iload_n dX5_copy_24 rfl)) <|
  fa_c (ok_p (xg_iald _) (x_iald dX5_copy_25)) <|
  fa_c (ok_p (xg_if _ _ _) (x_if_lt dX5_copy_26 (by decide))) <|
  fa_c (ok_p (xg_load _ _ _) (x_aload_n dX5_copy_29 rfl)) <|
  fa_c (ok_p (xg_getf _ _ _) (x_getf (C := RX5) (T := TX5) (N := 34) rfl (by decide) inX5 kw707 dX5_copy_30)) <|
  fa_c (ok_p (xg_load _ _ _) (x_iload_n dX5_copy_33 rfl)) <|
  fa_c (ok_p (xg_iald _) (x_iald dX5_copy_34)) <|
  fa_c (ok_p (xg_if _ _ _) (x_if_ge dX5_copy_35 (by decide))) <|
  fa_c (ok_p (xg_load _ _ _) (x_aload_n dX5_copy_38 rfl)) <|
  fa_c (ok_p (xg_st _ _) (x_iconst dX5_copy_39 rfl)) <|
  fa_c (ok_c pT_128 pY_128 (x_callV (n := 1) (C := RX5) (T := TX5) (N := 34) rfl rfl kw801 kw803 kw28 kw63 kw804 (by decide +kernel) dX5_copy_40)) <|
  fa_c (ok_r ⟨rfl, dX5_copy_43⟩) <|
  fa_c (ok_p (xg_load _ _ _) (x_aload_n dX5_copy_44 rfl)) <|
  fa_c (ok_p (xg_getf _ _ _) (x_getf (C := RX5) (T := TX5) (N := 34) rfl (by decide) inX5 kw708 dX5_copy_45)) <|
  fa_c (ok_p (xg_load _ _ _) (x_iload_n dX5_copy_48 rfl)) <|
  fa_c (ok_p (xg_iald _) (x_iald dX5_copy_49)) <|
  fa_c (ok_p (xg_load _ _ _) (x_aload_n dX5_copy_50 rfl)) <|
  fa_c (ok_p (xg_getf _ _ _) (x_getf (C := RX5) (T := TX5) (N := 34) rfl (by decide) inX5 kw708 dX5_copy_51)) <|
  fa_c (ok_p (xg_load _ _ _) (x_iload_n dX5_copy_54 rfl)) <|
  fa_c (ok_p (xg_iald _) (x_iald dX5_copy_55)) <|
  fa_c (ok_p (xg_icmp _ _ _) (x_icmp_eq dX5_copy_56 (by decide))) <|
  fa_c (ok_p (xg_load _ _ _) (x_aload_n dX5_copy_59 rfl)) <|
  fa_c (ok_p (xg_st _ _) (x_iconst dX5_copy_60 rfl)) <|
  fa_c (ok_c pT_128 pY_128 (x_callV (n := 1) (C := RX5) (T := TX5) (N := 34) rfl rfl kw801 kw803 kw28 kw63 kw804 (by decide +kernel) dX5_copy_61)) <|
  fa_c (ok_r ⟨rfl, dX5_copy_64⟩) <|
  fa_c (ok_p (xg_load _ _ _) (x_iload_n dX5_copy_65 rfl)) <|
  fa_c (ok_p (xg_load _ _ _) (x_iload dX5_copy_66)) <|
  fa_c (ok_p (xg_st _ _) (x_i2l dX5_copy_68)) <|
  fa_c (ok_p (xg_load _ _ _) (x_aload_n dX5_copy_69 rfl)) <|
  fa_c (ok_p (xg_getf _ _ _) (x_getf (C := RX5) (T := TX5) (N := 34) rfl (by decide) inX5 kw707 dX5_copy_70)) <|
  fa_c (ok_p (xg_load _ _ _) (x_iload_n dX5_copy_73 rfl)) <|
  fa_c (ok_p (xg_iald _) (x_iald dX5_copy_74)) <|
  fa_c (ok_c pT_185 pY_185 (x_callS (n := 3) rfl kw805 kw806 kw63 kw807 (by decide +kernel) dX5_copy_75)) <|
  fa_c (ok_p (xg_if _ _ _) (x_if_ne dX5_copy_78 (by decide))) <|
  fa_c (ok_p (xg_load _ _ _) (x_iload dX5_copy_81)) <|
  fa_c (ok_p (xg_load _ _ _) (x_iload dX5_copy_83)) <|
  fa_c (ok_p (xg_st _ _) (x_i2l dX5_copy_85)) <|
  fa_c (ok_p (xg_load _ _ _) (x_aload_n dX5_copy_86 rfl)) <|
  fa_c (ok_p (xg_getf _ _ _) (x_getf (C := RX5) (T := TX5) (N := 34) rfl (by decide) inX5 kw707 dX5_copy_87)) <|
  fa_c (ok_p (xg_load _ _ _) (x_iload_n dX5_copy_90 rfl)) <|
  fa_c (ok_p (xg_iald _) (x_iald dX5_copy_91)) <|
  fa_c (ok_c pT_185 pY_185 (x_callS (n := 3) rfl kw805 kw806 kw63 kw807 (by decide +kernel) dX5_copy_92)) <|
  fa_c (ok_p (xg_if _ _ _) (x_if_eq dX5_copy_95 (by decide))) <|
  fa_c (ok_p (xg_load _ _ _) (x_aload_n dX5_copy_98 rfl)) <|
  fa_c (ok_p (xg_st _ _) (x_iconst dX5_copy_99 rfl)) <|
  fa_c (ok_c pT_128 pY_128 (x_callV (n := 1) (C := RX5) (T := TX5) (N := 34) rfl rfl kw801 kw803 kw28 kw63 kw804 (by decide +kernel) dX5_copy_100)) <|
  fa_c (ok_r ⟨rfl, dX5_copy_103⟩) <|
  fa_c (ok_p (xg_st _ _) (x_iconst dX5_copy_104 rfl)) <|
  fa_c (ok_p (xg_store _ _ _) (x_istore dX5_copy_105)) <|
  fa_c (ok_p (xg_load _ _ _) (x_iload dX5_copy_107)) <|
  fa_c (ok_p (xg_load _ _ _) (x_iload dX5_copy_109)) <|
  fa_c (ok_p (xg_icmp _ _ _) (x_icmp_ge dX5_copy_111 (by decide))) <|
  fa_c (ok_p (xg_load _ _ _) (x_aload_n dX5_copy_114 rfl)) <|
  fa_c (ok_p (xg_getf _ _ _) (x_getf (C := RX5) (T := TX5) (N := 34) rfl (by decide) inX5 kw710 dX5_copy_115)) <|
  fa_c (ok_p (xg_load _ _ _) (x_iload dX5_copy_118)) <|
  fa_c (ok_p (xg_load _ _ _) (x_aload_n dX5_copy_120 rfl)) <|
  fa_c (ok_p (xg_getf _ _ _) (x_getf (C := RX5) (T := TX5) (N := 34) rfl (by decide) inX5 kw709 dX5_copy_121)) <|
  fa_c (ok_p (xg_st _ _) (x_bipush dX5_copy_124 rfl)) <|
  fa_c (ok_p (xg_load _ _ _) (x_iload_n dX5_copy_126 rfl)) <|
  fa_c (ok_p (xg_st _ _) (x_imul dX5_copy_127)) <|
  fa_c (ok_p (xg_load _ _ _) (x_iload_n dX5_copy_128 rfl)) <|
  fa_c (ok_p (xg_st _ _) (x_iadd dX5_copy_129)) <|
  fa_c (ok_p (xg_load _ _ _) (x_iload dX5_copy_130)) <|
  fa_c (ok_p (xg_st _ _) (x_iadd dX5_copy_132)) <|
  fa_c (ok_p (xg_iald _) (x_iald dX5_copy_133)) <|
  fa_c (ok_p (xg_iast _) (x_iast dX5_copy_134)) <|
  fa_c (ok_p (xg_iinc _ _ _) (x_iinc dX5_copy_135 rfl)) <|
  fa_c (ok_p (xg_st _ _) (x_goto dX5_copy_138 (by decide))) <|
  fa_c (ok_p (xg_st _ _) (x_iconst dX5_copy_141 rfl)) <|
  fa_c (ok_p (xg_store _ _ _) (x_istore dX5_copy_142)) <|
  fa_c (ok_p (xg_clr _ (xg_load _ _ _)) (x_clr _ (x_iload dX5_copy_144))) <|
  fa_c (ok_p (xg_load _ _ _) (x_iload dX5_copy_146)) <|
  fa_c (ok_p (xg_icmp _ _ _) (x_icmp_ge dX5_copy_148 (by decide))) <|
  fa_c (ok_p (xg_load _ _ _) (x_aload_n dX5_copy_151 rfl)) <|
  fa_c (ok_p (xg_getf _ _ _) (x_getf (C := RX5) (T := TX5) (N := 34) rfl (by decide) inX5 kw709 dX5_copy_152)) <|
  fa_c (ok_p (xg_st _ _) (x_bipush dX5_copy_155 rfl)) <|
  fa_c (ok_p (xg_load _ _ _) (x_iload_n dX5_copy_157 rfl)) <|
  fa_c (ok_p (xg_st _ _) (x_imul dX5_copy_158)) <|
  fa_c (ok_p (xg_load _ _ _) (x_iload dX5_copy_159)) <|
  fa_c (ok_p (xg_st _ _) (x_iadd dX5_copy_161)) <|
  fa_c (ok_p (xg_load _ _ _) (x_iload dX5_copy_162)) <|
  fa_c (ok_p (xg_st _ _) (x_iadd dX5_copy_164)) <|
  fa_c (ok_p (xg_load _ _ _) (x_aload_n dX5_copy_165 rfl)) <|
  fa_c (ok_p (xg_getf _ _ _) (x_getf (C := RX5) (T := TX5) (N := 34) rfl (by decide) inX5 kw710 dX5_copy_166)) <|
  fa_c (ok_p (xg_load _ _ _) (x_iload dX5_copy_169)) <|
  fa_c (ok_p (xg_iald _) (x_iald dX5_copy_171)) <|
  fa_c (ok_p (xg_iast _) (x_iast dX5_copy_172)) <|
  fa_c (ok_p (xg_iinc _ _ _) (x_iinc dX5_copy_173 rfl)) <|
  fa_c (ok_p (xg_st _ _) (x_goto dX5_copy_176 (by decide))) <|
  fa_c (ok_p (xg_load _ _ _) (x_aload_n dX5_copy_179 rfl)) <|
  fa_c (ok_p (xg_load _ _ _) (x_iload dX5_copy_180)) <|
  fa_c (ok_c pT_127 pY_127 (x_callV (n := 1) (C := RX5) (T := TX5) (N := 34) rfl rfl kw792 kw794 kw26 kw63 kw795 (by decide +kernel) dX5_copy_182)) <|
  fa_c (ok_r ⟨rfl, dX5_copy_185⟩) <|
  fa_n
theorem dX5_traced_0 : decode cX5_traced 0 = .ok (.aload_n 0, 1) := by decide +kernel
theorem dX5_traced_1 : decode cX5_traced 1 = .ok (.bipush 31, 2) := by decide +kernel
theorem dX5_traced_3 : decode cX5_traced 3 = .ok (.aload_n 0, 1) := by decide +kernel
theorem dX5_traced_4 : decode cX5_traced 4 = .ok (.getfield 269, 3) := by decide +kernel
theorem dX5_traced_7 : decode cX5_traced 7 = .ok (.imul, 1) := by decide +kernel
theorem dX5_traced_8 : decode cX5_traced 8 = .ok (.iload_n 1, 1) := by decide +kernel
theorem dX5_traced_9 : decode cX5_traced 9 = .ok (.iadd, 1) := by decide +kernel
theorem dX5_traced_10 : decode cX5_traced 10 = .ok (.putfield 269, 3) := by decide +kernel
theorem dX5_traced_13 : decode cX5_traced 13 = .ok (.return_, 1) := by decide +kernel
set_option maxRecDepth 20000 in
theorem tkX5_traced : ∀ q ∈ tbX5_traced, xOk (Zm false yX5_traced.name) RX5 cX5_traced 2 (none) pT pY q :=
  fa_c (ok_p (xg_load _ _ _) (x_aload_n dX5_traced_0 rfl)) <|
  fa_c (ok_p (xg_st _ _) (x_bipush dX5_traced_1 rfl)) <|
  fa_c (ok_p (xg_load _ _ _) (x_aload_n dX5_traced_3 rfl)) <|
  fa_c (ok_p (xg_getf _ _ _) (x_getf (C := RX5) (T := TX5) (N := 34) rfl (by decide) inX5 kw711 dX5_traced_4)) <|
  fa_c (ok_p (xg_st _ _) (x_imul dX5_traced_7)) <|
  fa_c (ok_p (xg_load _ _ _) (x_iload_n dX5_traced_8 rfl)) <|
  fa_c (ok_p (xg_st _ _) (x_iadd dX5_traced_9)) <|
  fa_c (ok_p (xg_putf _ _ _ _) (x_putfof (C := RX5) (T := TX5) (N := 34) tyX5 tyX5_ok nmX5 rfl (by decide) inX5 kw711 dX5_traced_10 (tyX5_ok 33 (by decide)) (fun _ _ _ _ _ _ => Or.inl rfl))) <|
  fa_c (ok_r ⟨rfl, dX5_traced_13⟩) <|
  fa_n
theorem dX5_tell_0 : decode cX5_tell 0 = .ok (.aload_n 0, 1) := by decide +kernel
theorem dX5_tell_1 : decode cX5_tell 1 = .ok (.iload_n 1, 1) := by decide +kernel
theorem dX5_tell_2 : decode cX5_tell 2 = .ok (.invokevirtual 160, 3) := by decide +kernel
theorem dX5_tell_5 : decode cX5_tell 5 = .ok (.ifCond .eq 5, 3) := by decide +kernel
theorem dX5_tell_8 : decode cX5_tell 8 = .ok (.iconst (-1), 1) := by decide +kernel
theorem dX5_tell_9 : decode cX5_tell 9 = .ok (.ireturn, 1) := by decide +kernel
theorem dX5_tell_10 : decode cX5_tell 10 = .ok (.aload_n 0, 1) := by decide +kernel
theorem dX5_tell_11 : decode cX5_tell 11 = .ok (.getfield 13, 3) := by decide +kernel
theorem dX5_tell_14 : decode cX5_tell 14 = .ok (.iload_n 1, 1) := by decide +kernel
theorem dX5_tell_15 : decode cX5_tell 15 = .ok (.iaload, 1) := by decide +kernel
theorem dX5_tell_16 : decode cX5_tell 16 = .ok (.istore_n 2, 1) := by decide +kernel
theorem dX5_tell_17 : decode cX5_tell 17 = .ok (.iload_n 2, 1) := by decide +kernel
theorem dX5_tell_18 : decode cX5_tell 18 = .ok (.iconst 2, 1) := by decide +kernel
theorem dX5_tell_19 : decode cX5_tell 19 = .ok (.if_icmp .ne 8, 3) := by decide +kernel
theorem dX5_tell_22 : decode cX5_tell 22 = .ok (.aload_n 0, 1) := by decide +kernel
theorem dX5_tell_23 : decode cX5_tell 23 = .ok (.iconst 3, 1) := by decide +kernel
theorem dX5_tell_24 : decode cX5_tell 24 = .ok (.invokevirtual 272, 3) := by decide +kernel
theorem dX5_tell_27 : decode cX5_tell 27 = .ok (.iload_n 2, 1) := by decide +kernel
theorem dX5_tell_28 : decode cX5_tell 28 = .ok (.ifCond .le 8, 3) := by decide +kernel
theorem dX5_tell_31 : decode cX5_tell 31 = .ok (.aload_n 0, 1) := by decide +kernel
theorem dX5_tell_32 : decode cX5_tell 32 = .ok (.iconst 2, 1) := by decide +kernel
theorem dX5_tell_33 : decode cX5_tell 33 = .ok (.invokevirtual 272, 3) := by decide +kernel
theorem dX5_tell_36 : decode cX5_tell 36 = .ok (.aload_n 0, 1) := by decide +kernel
theorem dX5_tell_37 : decode cX5_tell 37 = .ok (.iconst 1, 1) := by decide +kernel
theorem dX5_tell_38 : decode cX5_tell 38 = .ok (.invokevirtual 272, 3) := by decide +kernel
theorem dX5_tell_41 : decode cX5_tell 41 = .ok (.iload_n 2, 1) := by decide +kernel
theorem dX5_tell_42 : decode cX5_tell 42 = .ok (.iconst 2, 1) := by decide +kernel
theorem dX5_tell_43 : decode cX5_tell 43 = .ok (.if_icmp .ne 8, 3) := by decide +kernel
theorem dX5_tell_46 : decode cX5_tell 46 = .ok (.aload_n 0, 1) := by decide +kernel
theorem dX5_tell_47 : decode cX5_tell 47 = .ok (.iconst 1, 1) := by decide +kernel
theorem dX5_tell_48 : decode cX5_tell 48 = .ok (.invokevirtual 272, 3) := by decide +kernel
theorem dX5_tell_51 : decode cX5_tell 51 = .ok (.aload_n 0, 1) := by decide +kernel
theorem dX5_tell_52 : decode cX5_tell 52 = .ok (.getfield 16, 3) := by decide +kernel
theorem dX5_tell_55 : decode cX5_tell 55 = .ok (.iload_n 1, 1) := by decide +kernel
theorem dX5_tell_56 : decode cX5_tell 56 = .ok (.iaload, 1) := by decide +kernel
theorem dX5_tell_57 : decode cX5_tell 57 = .ok (.istore_n 3, 1) := by decide +kernel
theorem dX5_tell_58 : decode cX5_tell 58 = .ok (.iload_n 2, 1) := by decide +kernel
theorem dX5_tell_59 : decode cX5_tell 59 = .ok (.ifCond .ne 7, 3) := by decide +kernel
theorem dX5_tell_62 : decode cX5_tell 62 = .ok (.iload_n 3, 1) := by decide +kernel
theorem dX5_tell_63 : decode cX5_tell 63 = .ok (.goto 21, 3) := by decide +kernel
theorem dX5_tell_66 : decode cX5_tell 66 = .ok (.iload_n 2, 1) := by decide +kernel
theorem dX5_tell_67 : decode cX5_tell 67 = .ok (.iconst 1, 1) := by decide +kernel
theorem dX5_tell_68 : decode cX5_tell 68 = .ok (.if_icmp .ne 10, 3) := by decide +kernel
theorem dX5_tell_71 : decode cX5_tell 71 = .ok (.iload_n 3, 1) := by decide +kernel
theorem dX5_tell_72 : decode cX5_tell 72 = .ok (.bipush 100, 2) := by decide +kernel
theorem dX5_tell_74 : decode cX5_tell 74 = .ok (.iadd, 1) := by decide +kernel
theorem dX5_tell_75 : decode cX5_tell 75 = .ok (.goto 9, 3) := by decide +kernel
theorem dX5_tell_78 : decode cX5_tell 78 = .ok (.iconst 2, 1) := by decide +kernel
theorem dX5_tell_79 : decode cX5_tell 79 = .ok (.iload_n 3, 1) := by decide +kernel
theorem dX5_tell_80 : decode cX5_tell 80 = .ok (.imul, 1) := by decide +kernel
theorem dX5_tell_81 : decode cX5_tell 81 = .ok (.bipush 100, 2) := by decide +kernel
theorem dX5_tell_83 : decode cX5_tell 83 = .ok (.iadd, 1) := by decide +kernel
theorem dX5_tell_84 : decode cX5_tell 84 = .ok (.ireturn, 1) := by decide +kernel
set_option maxRecDepth 20000 in
theorem tkX5_tell : ∀ q ∈ tbX5_tell, xOk (Zm false yX5_tell.name) RX5 cX5_tell 4 (some .int) pT pY q :=
  fa_c (ok_p (xg_load _ _ _) (x_aload_n dX5_tell_0 rfl)) <|
  fa_c (ok_p (xg_load _ _ _) (x_iload_n dX5_tell_1 rfl)) <|
  fa_c (ok_c pT_130 pY_130 (x_callV (n := 1) (C := RX5) (T := TX5) (N := 34) rfl rfl kw843 kw845 kw36 kw63 kw846 (by decide +kernel) dX5_tell_2)) <|
  fa_c (ok_p (xg_if _ _ _) (x_if_eq dX5_tell_5 (by decide))) <|
  fa_c (ok_p (xg_st _ _) (x_iconst dX5_tell_8 rfl)) <|
  fa_c (ok_r ⟨rfl, dX5_tell_9⟩) <|
  fa_c (ok_p (xg_load _ _ _) (x_aload_n dX5_tell_10 rfl)) <|
  fa_c (ok_p (xg_getf _ _ _) (x_getf (C := RX5) (T := TX5) (N := 34) rfl (by decide) inX5 kw688 dX5_tell_11)) <|
  fa_c (ok_p (xg_load _ _ _) (x_iload_n dX5_tell_14 rfl)) <|
  fa_c (ok_p (xg_iald _) (x_iald dX5_tell_15)) <|
  fa_c (ok_p (xg_store _ _ _) (x_istore_n dX5_tell_16 rfl)) <|
  fa_c (ok_p (xg_load _ _ _) (x_iload_n dX5_tell_17 rfl)) <|
  fa_c (ok_p (xg_st _ _) (x_iconst dX5_tell_18 rfl)) <|
  fa_c (ok_p (xg_icmp _ _ _) (x_icmp_ne dX5_tell_19 (by decide))) <|
  fa_c (ok_p (xg_load _ _ _) (x_aload_n dX5_tell_22 rfl)) <|
  fa_c (ok_p (xg_st _ _) (x_iconst dX5_tell_23 rfl)) <|
  fa_c (ok_c pT_187 pY_187 (x_callV (n := 1) (C := RX5) (T := TX5) (N := 34) rfl rfl kw1046 kw1048 kw57 kw63 kw1049 (by decide +kernel) dX5_tell_24)) <|
  fa_c (ok_p (xg_load _ _ _) (x_iload_n dX5_tell_27 rfl)) <|
  fa_c (ok_p (xg_if _ _ _) (x_if_le dX5_tell_28 (by decide))) <|
  fa_c (ok_p (xg_load _ _ _) (x_aload_n dX5_tell_31 rfl)) <|
  fa_c (ok_p (xg_st _ _) (x_iconst dX5_tell_32 rfl)) <|
  fa_c (ok_c pT_187 pY_187 (x_callV (n := 1) (C := RX5) (T := TX5) (N := 34) rfl rfl kw1046 kw1048 kw57 kw63 kw1049 (by decide +kernel) dX5_tell_33)) <|
  fa_c (ok_p (xg_load _ _ _) (x_aload_n dX5_tell_36 rfl)) <|
  fa_c (ok_p (xg_st _ _) (x_iconst dX5_tell_37 rfl)) <|
  fa_c (ok_c pT_187 pY_187 (x_callV (n := 1) (C := RX5) (T := TX5) (N := 34) rfl rfl kw1046 kw1048 kw57 kw63 kw1049 (by decide +kernel) dX5_tell_38)) <|
  fa_c (ok_p (xg_load _ _ _) (x_iload_n dX5_tell_41 rfl)) <|
  fa_c (ok_p (xg_st _ _) (x_iconst dX5_tell_42 rfl)) <|
  fa_c (ok_p (xg_icmp _ _ _) (x_icmp_ne dX5_tell_43 (by decide))) <|
  fa_c (ok_p (xg_load _ _ _) (x_aload_n dX5_tell_46 rfl)) <|
  fa_c (ok_p (xg_st _ _) (x_iconst dX5_tell_47 rfl)) <|
  fa_c (ok_c pT_187 pY_187 (x_callV (n := 1) (C := RX5) (T := TX5) (N := 34) rfl rfl kw1046 kw1048 kw57 kw63 kw1049 (by decide +kernel) dX5_tell_48)) <|
  fa_c (ok_p (xg_load _ _ _) (x_aload_n dX5_tell_51 rfl)) <|
  fa_c (ok_p (xg_getf _ _ _) (x_getf (C := RX5) (T := TX5) (N := 34) rfl (by decide) inX5 kw689 dX5_tell_52)) <|
  fa_c (ok_p (xg_load _ _ _) (x_iload_n dX5_tell_55 rfl)) <|
  fa_c (ok_p (xg_iald _) (x_iald dX5_tell_56)) <|
  fa_c (ok_p (xg_store _ _ _) (x_istore_n dX5_tell_57 rfl)) <|
  fa_c (ok_p (xg_load _ _ _) (x_iload_n dX5_tell_58 rfl)) <|
  fa_c (ok_p (xg_if _ _ _) (x_if_ne dX5_tell_59 (by decide))) <|
  fa_c (ok_p (xg_load _ _ _) (x_iload_n dX5_tell_62 rfl)) <|
  fa_c (ok_p (xg_st _ _) (x_goto dX5_tell_63 (by decide))) <|
  fa_c (ok_p (xg_load _ _ _) (x_iload_n dX5_tell_66 rfl)) <|
  fa_c (ok_p (xg_st _ _) (x_iconst dX5_tell_67 rfl)) <|
  fa_c (ok_p (xg_icmp _ _ _) (x_icmp_ne dX5_tell_68 (by decide))) <|
  fa_c (ok_p (xg_load _ _ _) (x_iload_n dX5_tell_71 rfl)) <|
  fa_c (ok_p (xg_st _ _) (x_bipush dX5_tell_72 rfl)) <|
  fa_c (ok_p (xg_st _ _) (x_iadd dX5_tell_74)) <|
  fa_c (ok_p (xg_st _ _) (x_goto dX5_tell_75 (by decide))) <|
  fa_c (ok_p (xg_st _ _) (x_iconst dX5_tell_78 rfl)) <|
  fa_c (ok_p (xg_load _ _ _) (x_iload_n dX5_tell_79 rfl)) <|
  fa_c (ok_p (xg_st _ _) (x_imul dX5_tell_80)) <|
  fa_c (ok_p (xg_st _ _) (x_bipush dX5_tell_81 rfl)) <|
  fa_c (ok_p (xg_st _ _) (x_iadd dX5_tell_83)) <|
  fa_c (ok_r ⟨rfl, dX5_tell_84⟩) <|
  fa_n
theorem dX5_greet_0 : decode cX5_greet 0 = .ok (.aload_n 0, 1) := by decide +kernel
theorem dX5_greet_1 : decode cX5_greet 1 = .ok (.iload_n 1, 1) := by decide +kernel
theorem dX5_greet_2 : decode cX5_greet 2 = .ok (.invokevirtual 160, 3) := by decide +kernel
theorem dX5_greet_5 : decode cX5_greet 5 = .ok (.ifCond .eq 5, 3) := by decide +kernel
theorem dX5_greet_8 : decode cX5_greet 8 = .ok (.iconst (-1), 1) := by decide +kernel
theorem dX5_greet_9 : decode cX5_greet 9 = .ok (.ireturn, 1) := by decide +kernel
theorem dX5_greet_10 : decode cX5_greet 10 = .ok (.aload_n 0, 1) := by decide +kernel
theorem dX5_greet_11 : decode cX5_greet 11 = .ok (.aload_n 0, 1) := by decide +kernel
theorem dX5_greet_12 : decode cX5_greet 12 = .ok (.getfield 13, 3) := by decide +kernel
theorem dX5_greet_15 : decode cX5_greet 15 = .ok (.iload_n 1, 1) := by decide +kernel
theorem dX5_greet_16 : decode cX5_greet 16 = .ok (.iaload, 1) := by decide +kernel
theorem dX5_greet_17 : decode cX5_greet 17 = .ok (.iconst 2, 1) := by decide +kernel
theorem dX5_greet_18 : decode cX5_greet 18 = .ok (.if_icmp .ne 7, 3) := by decide +kernel
theorem dX5_greet_21 : decode cX5_greet 21 = .ok (.iconst 5, 1) := by decide +kernel
theorem dX5_greet_22 : decode cX5_greet 22 = .ok (.goto 4, 3) := by decide +kernel
theorem dX5_greet_25 : decode cX5_greet 25 = .ok (.iconst 4, 1) := by decide +kernel
theorem dX5_greet_26 : decode cX5_greet 26 = .ok (.invokevirtual 272, 3) := by decide +kernel
theorem dX5_greet_29 : decode cX5_greet 29 = .ok (.aload_n 0, 1) := by decide +kernel
theorem dX5_greet_30 : decode cX5_greet 30 = .ok (.getfield 13, 3) := by decide +kernel
theorem dX5_greet_33 : decode cX5_greet 33 = .ok (.iload_n 1, 1) := by decide +kernel
theorem dX5_greet_34 : decode cX5_greet 34 = .ok (.iaload, 1) := by decide +kernel
theorem dX5_greet_35 : decode cX5_greet 35 = .ok (.iconst 2, 1) := by decide +kernel
theorem dX5_greet_36 : decode cX5_greet 36 = .ok (.if_icmp .ne 8, 3) := by decide +kernel
theorem dX5_greet_39 : decode cX5_greet 39 = .ok (.bipush 90, 2) := by decide +kernel
theorem dX5_greet_41 : decode cX5_greet 41 = .ok (.goto 4, 3) := by decide +kernel
theorem dX5_greet_44 : decode cX5_greet 44 = .ok (.iload_n 1, 1) := by decide +kernel
theorem dX5_greet_45 : decode cX5_greet 45 = .ok (.ireturn, 1) := by decide +kernel
set_option maxRecDepth 20000 in
theorem tkX5_greet : ∀ q ∈ tbX5_greet, xOk (Zm false yX5_greet.name) RX5 cX5_greet 2 (some .int) pT pY q :=
  fa_c (ok_p (xg_load _ _ _) (x_aload_n dX5_greet_0 rfl)) <|
  fa_c (ok_p (xg_load _ _ _) (x_iload_n dX5_greet_1 rfl)) <|
  fa_c (ok_c pT_130 pY_130 (x_callV (n := 1) (C := RX5) (T := TX5) (N := 34) rfl rfl kw843 kw845 kw36 kw63 kw846 (by decide +kernel) dX5_greet_2)) <|
  fa_c (ok_p (xg_if _ _ _) (x_if_eq dX5_greet_5 (by decide))) <|
  fa_c (ok_p (xg_st _ _) (x_iconst dX5_greet_8 rfl)) <|
  fa_c (ok_r ⟨rfl, dX5_greet_9⟩) <|
  fa_c (ok_p (xg_load _ _ _) (x_aload_n dX5_greet_10 rfl)) <|
  fa_c (ok_p (xg_load _ _ _) (x_aload_n dX5_greet_11 rfl)) <|
  fa_c (ok_p (xg_getf _ _ _) (x_getf (C := RX5) (T := TX5) (N := 34) rfl (by decide) inX5 kw688 dX5_greet_12)) <|
  fa_c (ok_p (xg_load _ _ _) (x_iload_n dX5_greet_15 rfl)) <|
  fa_c (ok_p (xg_iald _) (x_iald dX5_greet_16)) <|
  fa_c (ok_p (xg_st _ _) (x_iconst dX5_greet_17 rfl)) <|
  fa_c (ok_p (xg_icmp _ _ _) (x_icmp_ne dX5_greet_18 (by decide))) <|
  fa_c (ok_p (xg_st _ _) (x_iconst dX5_greet_21 rfl)) <|
  fa_c (ok_p (xg_st _ _) (x_goto dX5_greet_22 (by decide))) <|
  fa_c (ok_p (xg_st _ _) (x_iconst dX5_greet_25 rfl)) <|
  fa_c (ok_c pT_187 pY_187 (x_callV (n := 1) (C := RX5) (T := TX5) (N := 34) rfl rfl kw1046 kw1048 kw57 kw63 kw1049 (by decide +kernel) dX5_greet_26)) <|
  fa_c (ok_p (xg_load _ _ _) (x_aload_n dX5_greet_29 rfl)) <|
  fa_c (ok_p (xg_getf _ _ _) (x_getf (C := RX5) (T := TX5) (N := 34) rfl (by decide) inX5 kw688 dX5_greet_30)) <|
  fa_c (ok_p (xg_load _ _ _) (x_iload_n dX5_greet_33 rfl)) <|
  fa_c (ok_p (xg_iald _) (x_iald dX5_greet_34)) <|
  fa_c (ok_p (xg_st _ _) (x_iconst dX5_greet_35 rfl)) <|
  fa_c (ok_p (xg_icmp _ _ _) (x_icmp_ne dX5_greet_36 (by decide))) <|
  fa_c (ok_p (xg_st _ _) (x_bipush dX5_greet_39 rfl)) <|
  fa_c (ok_p (xg_st _ _) (x_goto dX5_greet_41 (by decide))) <|
  fa_c (ok_p (xg_load _ _ _) (x_iload_n dX5_greet_44 rfl)) <|
  fa_c (ok_r ⟨rfl, dX5_greet_45⟩) <|
  fa_n
theorem dX5_as_0 : decode cX5_as 0 = .ok (.aload_n 0, 1) := by decide +kernel
theorem dX5_as_1 : decode cX5_as 1 = .ok (.iload_n 1, 1) := by decide +kernel
theorem dX5_as_2 : decode cX5_as 2 = .ok (.invokevirtual 160, 3) := by decide +kernel
theorem dX5_as_5 : decode cX5_as 5 = .ok (.ifCond .eq 9, 3) := by decide +kernel
theorem dX5_as_8 : decode cX5_as 8 = .ok (.aload_n 0, 1) := by decide +kernel
theorem dX5_as_9 : decode cX5_as 9 = .ok (.iconst (-1), 1) := by decide +kernel
theorem dX5_as_10 : decode cX5_as 10 = .ok (.invokevirtual 120, 3) := by decide +kernel
theorem dX5_as_13 : decode cX5_as 13 = .ok (.ireturn, 1) := by decide +kernel
theorem dX5_as_14 : decode cX5_as 14 = .ok (.iload_n 2, 1) := by decide +kernel
theorem dX5_as_15 : decode cX5_as 15 = .ok (.i2l, 1) := by decide +kernel
theorem dX5_as_16 : decode cX5_as 16 = .ok (.lconst 0, 1) := by decide +kernel
theorem dX5_as_17 : decode cX5_as 17 = .ok (.ldc2_w 123, 3) := by decide +kernel
theorem dX5_as_20 : decode cX5_as 20 = .ok (.invokestatic 65, 3) := by decide +kernel
theorem dX5_as_23 : decode cX5_as 23 = .ok (.ifCond .ne 10, 3) := by decide +kernel
theorem dX5_as_26 : decode cX5_as 26 = .ok (.aload_n 0, 1) := by decide +kernel
theorem dX5_as_27 : decode cX5_as 27 = .ok (.bipush (-2), 2) := by decide +kernel
theorem dX5_as_29 : decode cX5_as 29 = .ok (.invokevirtual 120, 3) := by decide +kernel
theorem dX5_as_32 : decode cX5_as 32 = .ok (.ireturn, 1) := by decide +kernel
theorem dX5_as_33 : decode cX5_as 33 = .ok (.aload_n 0, 1) := by decide +kernel
theorem dX5_as_34 : decode cX5_as 34 = .ok (.getfield 13, 3) := by decide +kernel
theorem dX5_as_37 : decode cX5_as 37 = .ok (.iload_n 1, 1) := by decide +kernel
theorem dX5_as_38 : decode cX5_as 38 = .ok (.iaload, 1) := by decide +kernel
theorem dX5_as_39 : decode cX5_as 39 = .ok (.iload_n 2, 1) := by decide +kernel
theorem dX5_as_40 : decode cX5_as 40 = .ok (.if_icmp .lt 11, 3) := by decide +kernel
theorem dX5_as_43 : decode cX5_as 43 = .ok (.aload_n 0, 1) := by decide +kernel
theorem dX5_as_44 : decode cX5_as 44 = .ok (.iconst 1, 1) := by decide +kernel
theorem dX5_as_45 : decode cX5_as 45 = .ok (.invokevirtual 120, 3) := by decide +kernel
theorem dX5_as_48 : decode cX5_as 48 = .ok (.goto 8, 3) := by decide +kernel
theorem dX5_as_51 : decode cX5_as 51 = .ok (.aload_n 0, 1) := by decide +kernel
theorem dX5_as_52 : decode cX5_as 52 = .ok (.iconst 2, 1) := by decide +kernel
theorem dX5_as_53 : decode cX5_as 53 = .ok (.invokevirtual 108, 3) := by decide +kernel
theorem dX5_as_56 : decode cX5_as 56 = .ok (.ireturn, 1) := by decide +kernel
set_option maxRecDepth 20000 in
theorem tkX5_as : ∀ q ∈ tbX5_as, xOk (Zm false yX5_as.name) RX5 cX5_as 3 (some .int) pT pY q :=
  fa_c (ok_p (xg_load _ _ _) (x_aload_n dX5_as_0 rfl)) <|
  fa_c (ok_p (xg_load _ _ _) (x_iload_n dX5_as_1 rfl)) <|
  fa_c (ok_c pT_130 pY_130 (x_callV (n := 1) (C := RX5) (T := TX5) (N := 34) rfl rfl kw843 kw845 kw36 kw63 kw846 (by decide +kernel) dX5_as_2)) <|
  fa_c (ok_p (xg_if _ _ _) (x_if_eq dX5_as_5 (by decide))) <|
  fa_c (ok_p (xg_load _ _ _) (x_aload_n dX5_as_8 rfl)) <|
  fa_c (ok_p (xg_st _ _) (x_iconst dX5_as_9 rfl)) <|
  fa_c (ok_c pT_127 pY_127 (x_callV (n := 1) (C := RX5) (T := TX5) (N := 34) rfl rfl kw792 kw794 kw26 kw63 kw795 (by decide +kernel) dX5_as_10)) <|
  fa_c (ok_r ⟨rfl, dX5_as_13⟩) <|
  fa_c (ok_p (xg_load _ _ _) (x_iload_n dX5_as_14 rfl)) <|
  fa_c (ok_p (xg_st _ _) (x_i2l dX5_as_15)) <|
  fa_c (ok_p (xg_st _ _) (x_lconst dX5_as_16 rfl)) <|
  fa_c (ok_p (xg_st _ _) (x_ldc2 dX5_as_17 kw796)) <|
  fa_c (ok_c pT_122 pY_122 (x_callS (n := 3) rfl kw789 kw790 kw63 kw791 (by decide +kernel) dX5_as_20)) <|
  fa_c (ok_p (xg_if _ _ _) (x_if_ne dX5_as_23 (by decide))) <|
  fa_c (ok_p (xg_load _ _ _) (x_aload_n dX5_as_26 rfl)) <|
  fa_c (ok_p (xg_st _ _) (x_bipush dX5_as_27 rfl)) <|
  fa_c (ok_c pT_127 pY_127 (x_callV (n := 1) (C := RX5) (T := TX5) (N := 34) rfl rfl kw792 kw794 kw26 kw63 kw795 (by decide +kernel) dX5_as_29)) <|
  fa_c (ok_r ⟨rfl, dX5_as_32⟩) <|
  fa_c (ok_p (xg_load _ _ _) (x_aload_n dX5_as_33 rfl)) <|
  fa_c (ok_p (xg_getf _ _ _) (x_getf (C := RX5) (T := TX5) (N := 34) rfl (by decide) inX5 kw688 dX5_as_34)) <|
  fa_c (ok_p (xg_load _ _ _) (x_iload_n dX5_as_37 rfl)) <|
  fa_c (ok_p (xg_iald _) (x_iald dX5_as_38)) <|
  fa_c (ok_p (xg_load _ _ _) (x_iload_n dX5_as_39 rfl)) <|
  fa_c (ok_p (xg_icmp _ _ _) (x_icmp_lt dX5_as_40 (by decide))) <|
  fa_c (ok_p (xg_load _ _ _) (x_aload_n dX5_as_43 rfl)) <|
  fa_c (ok_p (xg_st _ _) (x_iconst dX5_as_44 rfl)) <|
  fa_c (ok_c pT_127 pY_127 (x_callV (n := 1) (C := RX5) (T := TX5) (N := 34) rfl rfl kw792 kw794 kw26 kw63 kw795 (by decide +kernel) dX5_as_45)) <|
  fa_c (ok_p (xg_st _ _) (x_goto dX5_as_48 (by decide))) <|
  fa_c (ok_p (xg_load _ _ _) (x_aload_n dX5_as_51 rfl)) <|
  fa_c (ok_p (xg_st _ _) (x_iconst dX5_as_52 rfl)) <|
  fa_c (ok_c pT_128 pY_128 (x_callV (n := 1) (C := RX5) (T := TX5) (N := 34) rfl rfl kw801 kw803 kw28 kw63 kw804 (by decide +kernel) dX5_as_53)) <|
  fa_c (ok_r ⟨rfl, dX5_as_56⟩) <|
  fa_n
theorem dX5_trace_0 : decode cX5_trace 0 = .ok (.aload_n 0, 1) := by decide +kernel
theorem dX5_trace_1 : decode cX5_trace 1 = .ok (.getfield 269, 3) := by decide +kernel
theorem dX5_trace_4 : decode cX5_trace 4 = .ok (.ireturn, 1) := by decide +kernel
set_option maxRecDepth 20000 in
theorem tkX5_trace : ∀ q ∈ tbX5_trace, xOk (Zm false yX5_trace.name) RX5 cX5_trace 1 (some .int) pT pY q :=
  fa_c (ok_p (xg_load _ _ _) (x_aload_n dX5_trace_0 rfl)) <|
  fa_c (ok_p (xg_getf _ _ _) (x_getf (C := RX5) (T := TX5) (N := 34) rfl (by decide) inX5 kw711 dX5_trace_1)) <|
  fa_c (ok_r ⟨rfl, dX5_trace_4⟩) <|
  fa_n
theorem dX5_fault_0 : decode cX5_fault 0 = .ok (.aload_n 0, 1) := by decide +kernel
theorem dX5_fault_1 : decode cX5_fault 1 = .ok (.getfield 54, 3) := by decide +kernel
theorem dX5_fault_4 : decode cX5_fault 4 = .ok (.ireturn, 1) := by decide +kernel
set_option maxRecDepth 20000 in
theorem tkX5_fault : ∀ q ∈ tbX5_fault, xOk (Zm false yX5_fault.name) RX5 cX5_fault 1 (some .int) pT pY q :=
  fa_c (ok_p (xg_load _ _ _) (x_aload_n dX5_fault_0 rfl)) <|
  fa_c (ok_p (xg_getf _ _ _) (x_getf (C := RX5) (T := TX5) (N := 34) rfl (by decide) inX5 kw678 dX5_fault_1)) <|
  fa_c (ok_r ⟨rfl, dX5_fault_4⟩) <|
  fa_n
theorem dX5_many_0 : decode cX5_many 0 = .ok (.iload_n 1, 1) := by decide +kernel
theorem dX5_many_1 : decode cX5_many 1 = .ok (.tableswitch 82 0 6 #[43, 48, 53, 58, 64, 69, 77], 43) := by decide +kernel
theorem dX5_many_44 : decode cX5_many 44 = .ok (.aload_n 0, 1) := by decide +kernel
theorem dX5_many_45 : decode cX5_many 45 = .ok (.getfield 69, 3) := by decide +kernel
theorem dX5_many_48 : decode cX5_many 48 = .ok (.ireturn, 1) := by decide +kernel
theorem dX5_many_49 : decode cX5_many 49 = .ok (.aload_n 0, 1) := by decide +kernel
theorem dX5_many_50 : decode cX5_many 50 = .ok (.getfield 72, 3) := by decide +kernel
theorem dX5_many_53 : decode cX5_many 53 = .ok (.ireturn, 1) := by decide +kernel
theorem dX5_many_54 : decode cX5_many 54 = .ok (.aload_n 0, 1) := by decide +kernel
theorem dX5_many_55 : decode cX5_many 55 = .ok (.getfield 62, 3) := by decide +kernel
theorem dX5_many_58 : decode cX5_many 58 = .ok (.ireturn, 1) := by decide +kernel
theorem dX5_many_59 : decode cX5_many 59 = .ok (.aload_n 0, 1) := by decide +kernel
theorem dX5_many_60 : decode cX5_many 60 = .ok (.iconst 0, 1) := by decide +kernel
theorem dX5_many_61 : decode cX5_many 61 = .ok (.invokevirtual 157, 3) := by decide +kernel
theorem dX5_many_64 : decode cX5_many 64 = .ok (.ireturn, 1) := by decide +kernel
theorem dX5_many_65 : decode cX5_many 65 = .ok (.aload_n 0, 1) := by decide +kernel
theorem dX5_many_66 : decode cX5_many 66 = .ok (.getfield 138, 3) := by decide +kernel
theorem dX5_many_69 : decode cX5_many 69 = .ok (.ireturn, 1) := by decide +kernel
theorem dX5_many_70 : decode cX5_many 70 = .ok (.aload_n 0, 1) := by decide +kernel
theorem dX5_many_71 : decode cX5_many 71 = .ok (.getfield 147, 3) := by decide +kernel
theorem dX5_many_74 : decode cX5_many 74 = .ok (.invokestatic 171, 3) := by decide +kernel
theorem dX5_many_77 : decode cX5_many 77 = .ok (.ireturn, 1) := by decide +kernel
theorem dX5_many_78 : decode cX5_many 78 = .ok (.aload_n 0, 1) := by decide +kernel
theorem dX5_many_79 : decode cX5_many 79 = .ok (.getfield 151, 3) := by decide +kernel
theorem dX5_many_82 : decode cX5_many 82 = .ok (.ireturn, 1) := by decide +kernel
theorem dX5_many_83 : decode cX5_many 83 = .ok (.bipush (-2), 2) := by decide +kernel
theorem dX5_many_85 : decode cX5_many 85 = .ok (.ireturn, 1) := by decide +kernel
set_option maxRecDepth 20000 in
theorem tkX5_many : ∀ q ∈ tbX5_many, xOk (Zm false yX5_many.name) RX5 cX5_many 2 (some .int) pT pY q :=
  fa_c (ok_p (xg_load _ _ _) (x_iload_n dX5_many_0 rfl)) <|
  fa_c (ok_p (xg_sw _ _) (x_tsw dX5_many_1 (by decide) (by decide +kernel) (by decide +kernel))) <|
  fa_c (ok_p (xg_load _ _ _) (x_aload_n dX5_many_44 rfl)) <|
  fa_c (ok_p (xg_getf _ _ _) (x_getf (C := RX5) (T := TX5) (N := 34) rfl (by decide) inX5 kw679 dX5_many_45)) <|
  fa_c (ok_r ⟨rfl, dX5_many_48⟩) <|
  fa_c (ok_p (xg_load _ _ _) (x_aload_n dX5_many_49 rfl)) <|
  fa_c (ok_p (xg_getf _ _ _) (x_getf (C := RX5) (T := TX5) (N := 34) rfl (by decide) inX5 kw680 dX5_many_50)) <|
  fa_c (ok_r ⟨rfl, dX5_many_53⟩) <|
  fa_c (ok_p (xg_load _ _ _) (x_aload_n dX5_many_54 rfl)) <|
  fa_c (ok_p (xg_getf _ _ _) (x_getf (C := RX5) (T := TX5) (N := 34) rfl (by decide) inX5 kw681 dX5_many_55)) <|
  fa_c (ok_r ⟨rfl, dX5_many_58⟩) <|
  fa_c (ok_p (xg_load _ _ _) (x_aload_n dX5_many_59 rfl)) <|
  fa_c (ok_p (xg_st _ _) (x_iconst dX5_many_60 rfl)) <|
  fa_c (ok_c pT_139 pY_139 (x_callV (n := 1) (C := RX5) (T := TX5) (N := 34) rfl rfl kw835 kw837 kw35 kw63 kw838 (by decide +kernel) dX5_many_61)) <|
  fa_c (ok_r ⟨rfl, dX5_many_64⟩) <|
  fa_c (ok_p (xg_load _ _ _) (x_aload_n dX5_many_65 rfl)) <|
  fa_c (ok_p (xg_getf _ _ _) (x_getf (C := RX5) (T := TX5) (N := 34) rfl (by decide) inX5 kw684 dX5_many_66)) <|
  fa_c (ok_r ⟨rfl, dX5_many_69⟩) <|
  fa_c (ok_p (xg_load _ _ _) (x_aload_n dX5_many_70 rfl)) <|
  fa_c (ok_p (xg_getf _ _ _) (x_getf (C := RX5) (T := TX5) (N := 34) rfl (by decide) inX5 kw686 dX5_many_71)) <|
  fa_c (ok_c pT_125 pY_125 (x_callS (n := 1) rfl kw872 kw873 kw63 kw874 (by decide +kernel) dX5_many_74)) <|
  fa_c (ok_r ⟨rfl, dX5_many_77⟩) <|
  fa_c (ok_p (xg_load _ _ _) (x_aload_n dX5_many_78 rfl)) <|
  fa_c (ok_p (xg_getf _ _ _) (x_getf (C := RX5) (T := TX5) (N := 34) rfl (by decide) inX5 kw703 dX5_many_79)) <|
  fa_c (ok_r ⟨rfl, dX5_many_82⟩) <|
  fa_c (ok_p (xg_st _ _) (x_bipush dX5_many_83 rfl)) <|
  fa_c (ok_r ⟨rfl, dX5_many_85⟩) <|
  fa_n
